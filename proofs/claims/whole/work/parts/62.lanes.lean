/-! ===== lanes: lists that hang in rows, in numbers ===== -/
def Ch (bh ah : Nat → Int32) : Option Nat → List Nat → Option Nat → Prop
  | _, [], _ => True
  | pv, x :: l, en => ah x = oI pv ∧ bh x = oI (l.head?.or en) ∧ Ch bh ah (some x) l en
theorem Ch_congr {bh ah bh' ah' : Nat → Int32} {en : Option Nat} : ∀ (l : List Nat) (pv : Option Nat), (∀ x, x ∈ l → bh' x = bh x ∧ ah' x = ah x) → Ch bh ah pv l en → Ch bh' ah' pv l en := by
  intro l
  induction l with
  | nil => exact fun _ _ _ => trivial
  | cons x l ih =>
    rintro pv h ⟨h1, h2, h3⟩
    have := h x List.mem_cons_self
    exact ⟨by rw [this.2]; exact h1, by rw [this.1]; exact h2, ih _ (fun y hy => h y (List.mem_cons_of_mem _ hy)) h3⟩
theorem or_asc (a b c : Option Nat) : (a.or b).or c = a.or (b.or c) := by cases a <;> rfl
theorem Ch_app {bh ah : Nat → Int32} {en : Option Nat} (l2 : List Nat) : ∀ (l1 : List Nat) (pv : Option Nat), Ch bh ah pv (l1 ++ l2) en ↔ Ch bh ah pv l1 (l2.head?.or en) ∧ Ch bh ah (l1.getLast?.or pv) l2 en := by
  intro l1
  induction l1 with
  | nil => exact fun pv => ⟨fun h => ⟨trivial, h⟩, fun h => h.2⟩
  | cons x l ih =>
    intro pv
    show (ah x = oI pv ∧ bh x = oI ((l ++ l2).head?.or en) ∧ Ch bh ah (some x) (l ++ l2) en) ↔ (ah x = oI pv ∧ bh x = oI (l.head?.or (l2.head?.or en)) ∧ Ch bh ah (some x) l (l2.head?.or en)) ∧ _
    have e1 : (l ++ l2).head?.or en = l.head?.or (l2.head?.or en) := by rw [List.head?_append, or_asc]
    have e2 : l.getLast?.or (some x) = (x :: l).getLast?.or pv := by
      rw [List.getLast?_cons]
      cases l.getLast? <;> rfl
    rw [ih (some x), e1, e2]
    exact ⟨fun ⟨a, b, c, d⟩ => ⟨⟨a, b, c⟩, d⟩, fun ⟨⟨a, b, c⟩, d⟩ => ⟨a, b, c, d⟩⟩
/-- all that hangs: v its sum, O whether it hangs -/
def Lns (hd bh ah : Nat → Int32) (v : Nat → Nat) (O : Nat → Prop) : Prop := ∃ ls : Nat → List Nat, ∀ i, i < 100 → hd i = oI (ls i).head? ∧ Ch bh ah none (ls i) none ∧ (ls i).Nodup ∧ ∀ x, x ∈ ls i ↔ O x ∧ v x % 100 = i
theorem Lns.empty {hd bh ah : Nat → Int32} {v : Nat → Nat} {O : Nat → Prop} (h1 : ∀ i, i < 100 → hd i = -1) (h2 : ∀ x, ¬ O x) : Lns hd bh ah v O :=
  ⟨fun _ => [], fun i hi => ⟨h1 i hi, trivial, List.nodup_nil, fun x => ⟨fun h => absurd h List.not_mem_nil, fun h => absurd h.1 (h2 x)⟩⟩⟩
theorem oI_ge {o : Option Nat} (h : ∀ x, o = some x → x < 2 ^ 31) : (0 ≤ oI o) ↔ o ≠ none := by
  cases o with
  | none => exact ⟨fun q => absurd q i32_0m1, fun q => absurd rfl q⟩
  | some x => exact ⟨fun _ => Option.some_ne_none _, fun _ => nI_pos' (h x rfl)⟩
/-- the row behind a hanging: the one ahead of the old head -/
def hangA (ah : Nat → Int32) (s : Nat) (o : Option Nat) : Nat → Int32 := match o with
  | none => va_up ah s (-1)
  | some x => va_up (va_up ah s (-1)) x (nI s)
theorem Lns.hang {hd bh ah : Nat → Int32} {v : Nat → Nat} {O : Nat → Prop} {s c : Nat} (h : Lns hd bh ah v O) (hs : ¬ O s) :
    ∃ o : Option Nat, hd (c % 100) = oI o ∧ (∀ x, o = some x → O x ∧ x ≠ s) ∧ Lns (va_up hd (c % 100) (nI s)) (va_up bh s (hd (c % 100))) (hangA ah s o) (va_up v s c) (fun x => O x ∨ x = s) := by
  obtain ⟨ls, h⟩ := h
  have hc : c % 100 < 100 := Nat.mod_lt _ (by decide)
  obtain ⟨g1, g2, g3, g4⟩ := h _ hc
  have hsn : ∀ i, i < 100 → s ∉ ls i := fun i hi hm => hs (((h i hi).2.2.2 s).mp hm).1
  refine ⟨(ls (c % 100)).head?, g1, fun x hx => ?_, ?_⟩
  · have hm : x ∈ ls (c % 100) := List.mem_of_mem_head? hx
    exact ⟨((g4 x).mp hm).1, fun q => hsn _ hc (q ▸ hm)⟩
  · refine ⟨fun i => if i = c % 100 then s :: ls i else ls i, fun i hi => ?_⟩
    obtain ⟨k1, k2, k3, k4⟩ := h i hi
    by_cases q : i = c % 100
    · subst q
      simp only [if_true]
      refine ⟨by rw [up_at, if_pos rfl]; rfl, ?_, List.nodup_cons.mpr ⟨hsn _ hi, k3⟩, fun x => ?_⟩
      · cases e : ls (c % 100) with
        | nil =>
          refine ⟨?_, ?_, trivial⟩
          · show va_up ah s (-1) s = -1
            rw [up_at, if_pos rfl]
          · rw [up_at, if_pos rfl, g1, e]
            rfl
        | cons x l =>
          rw [e] at k2 k3
          have hxs : s ≠ x := fun q => hsn _ hi (by rw [e, q]; exact List.mem_cons_self)
          have hxl := List.nodup_cons.mp k3
          have hsl : s ∉ l := fun q => hsn _ hi (by rw [e]; exact List.mem_cons_of_mem _ q)
          obtain ⟨m1, m2, m3⟩ := k2
          refine ⟨?_, ?_, ?_, ?_, ?_⟩
          · show va_up (va_up ah s (-1)) x (nI s) s = -1
            rw [up_at, if_neg hxs, up_at, if_pos rfl]
          · rw [up_at, if_pos rfl, g1, e]
            rfl
          · show va_up (va_up ah s (-1)) x (nI s) x = nI s
            rw [up_at, if_pos rfl]
          · rw [up_at, if_neg (Ne.symm hxs)]
            exact m2
          · refine Ch_congr l (some x) (fun y hy => ?_) m3
            have y1 : y ≠ s := fun q => hsl (q ▸ hy)
            have y2 : y ≠ x := fun q => hxl.1 (q ▸ hy)
            refine ⟨by rw [up_at, if_neg y1], ?_⟩
            show va_up (va_up ah s (-1)) x (nI s) y = ah y
            rw [up_at, if_neg y2, up_at, if_neg y1]
      · rw [List.mem_cons, k4 x, up_at]
        by_cases y1 : x = s
        · subst y1
          simp
        · simp [y1]
    · simp only [q, if_false]
      refine ⟨by rw [up_at, if_neg q]; exact k1, ?_, k3, fun x => ?_⟩
      · refine Ch_congr _ _ (fun y hy => ?_) k2
        have y1 : y ≠ s := fun z => hsn i hi (z ▸ hy)
        refine ⟨by rw [up_at, if_neg y1], ?_⟩
        unfold hangA
        cases e : (ls (c % 100)).head? with
        | none => show va_up ah s (-1) y = ah y; rw [up_at, if_neg y1]
        | some x =>
          have hm : x ∈ ls (c % 100) := List.mem_of_mem_head? e
          have y2 : y ≠ x := fun z => by
            have w1 := ((g4 x).mp hm).2
            have w2 := ((k4 y).mp hy).2
            rw [z] at w2
            omega
          show va_up (va_up ah s (-1)) x (nI s) y = ah y
          rw [up_at, if_neg y2, up_at, if_neg y1]
      · rw [k4 x, up_at]
        by_cases y1 : x = s
        · subst y1
          rw [if_pos rfl]
          exact ⟨fun z => absurd z.1 hs, fun z => absurd z.2.symm q⟩
        · simp [y1]
/-- the rows behind a taking off -/
def offB (bh : Nat → Int32) (a0 : Option Nat) (b0 : Option Nat) : Nat → Int32 := match a0 with
  | none => bh
  | some p => va_up bh p (oI b0)
def offA (ah : Nat → Int32) (a0 : Option Nat) (b0 : Option Nat) : Nat → Int32 := match b0 with
  | none => ah
  | some x => va_up ah x (oI a0)
def offH (hd : Nat → Int32) (i : Nat) (a0 : Option Nat) (b0 : Option Nat) : Nat → Int32 := match a0 with
  | none => va_up hd i (oI b0)
  | some _ => hd
theorem Lns.off {hd bh ah : Nat → Int32} {v : Nat → Nat} {O : Nat → Prop} {s : Nat} (h : Lns hd bh ah v O) (hs : O s) :
    ∃ a0 b0 : Option Nat, ah s = oI a0 ∧ bh s = oI b0 ∧ (∀ x, a0 = some x → O x ∧ x ≠ s) ∧ (∀ x, b0 = some x → O x ∧ x ≠ s) ∧ Lns (offH hd (v s % 100) a0 b0) (offB bh a0 b0) (offA ah a0 b0) v (fun x => O x ∧ x ≠ s) := by
  obtain ⟨ls, h⟩ := h
  have hc : v s % 100 < 100 := Nat.mod_lt _ (by decide)
  obtain ⟨g1, g2, g3, g4⟩ := h _ hc
  have hm : s ∈ ls (v s % 100) := (g4 s).mpr ⟨hs, rfl⟩
  obtain ⟨l1, l2, e⟩ := List.append_of_mem hm
  rw [e] at g1 g2 g3
  rw [Ch_app] at g2
  obtain ⟨c1, c2, c3, c4⟩ := g2
  have e1 : l1.getLast?.or none = l1.getLast? := by cases l1.getLast? <;> rfl
  have e2 : l2.head?.or none = l2.head? := by cases l2.head? <;> rfl
  rw [e1] at c2
  rw [e2] at c3
  rw [List.nodup_append] at g3
  obtain ⟨n1, n2, n3⟩ := g3
  rw [List.nodup_cons] at n2
  have hs1 : s ∉ l1 := fun q => n3 s q s List.mem_cons_self rfl
  have mem1 : ∀ x, x ∈ l1 → O x ∧ v x % 100 = v s % 100 := fun x hx => (g4 x).mp (by rw [e]; exact List.mem_append_left _ hx)
  have mem2 : ∀ x, x ∈ l2 → O x ∧ v x % 100 = v s % 100 := fun x hx => (g4 x).mp (by rw [e]; exact List.mem_append_right _ (List.mem_cons_of_mem _ hx))
  have la : ∀ x, l1.getLast? = some x → x ∈ l1 := fun x hx => List.mem_of_getLast? hx
  have lb : ∀ x, l2.head? = some x → x ∈ l2 := fun x hx => List.mem_of_mem_head? hx
  have hBo : ∀ y, y ∉ l1 → offB bh l1.getLast? l2.head? y = bh y := fun y hy => by
    unfold offB
    cases q : l1.getLast? with
    | none => rfl
    | some p =>
      show va_up bh p _ y = bh y
      rw [up_at, if_neg (fun z => hy (by rw [z]; exact la p q))]
  have hAo : ∀ y, y ∉ l2 → offA ah l1.getLast? l2.head? y = ah y := fun y hy => by
    unfold offA
    cases q : l2.head? with
    | none => rfl
    | some p =>
      show va_up ah p _ y = ah y
      rw [up_at, if_neg (fun z => hy (by rw [z]; exact lb p q))]
  refine ⟨l1.getLast?, l2.head?, c2, c3, fun x hx => ⟨(mem1 x (la x hx)).1, fun q => hs1 (q ▸ la x hx)⟩, fun x hx => ⟨(mem2 x (lb x hx)).1, fun q => n2.1 (q ▸ lb x hx)⟩, fun i => if i = v s % 100 then l1 ++ l2 else ls i, fun i hi => ?_⟩
  obtain ⟨k1, k2, k3, k4⟩ := h i hi
  by_cases q : i = v s % 100
  · subst q
    simp only [if_true]
    have d12 : ∀ x, x ∈ l1 → x ∉ l2 := fun x h1 h2 => n3 x h1 x (List.mem_cons_of_mem _ h2) rfl
    refine ⟨?_, ?_, ?_, fun x => ?_⟩
    · unfold offH
      cases q1 : l1.getLast? with
      | none =>
        have : l1 = [] := List.getLast?_eq_none_iff.mp q1
        subst this
        show va_up hd _ _ _ = _
        rw [up_at, if_pos rfl]
        rfl
      | some p =>
        cases l1 with
        | nil => cases q1
        | cons y l1 =>
          show hd _ = _
          rw [g1]
          rfl
    · rw [Ch_app, e1, e2]
      constructor
      · -- the first part: only its last one has another behind it
        rcases List.eq_nil_or_concat l1 with z | ⟨l0, p, z⟩
        · subst z
          trivial
        · have z' : l1 = l0 ++ [p] := by rw [z, List.concat_eq_append]
          subst z'
          have hgl : (l0 ++ [p]).getLast? = some p := by simp
          rw [Ch_app] at c1 ⊢
          have hp0 : p ∉ l0 := fun w => by
            rw [List.nodup_append] at n1
            exact n1.2.2 p w p (by simp) rfl
          refine ⟨?_, ?_, ?_, trivial⟩
          · refine Ch_congr _ _ (fun y hy => ?_) c1.1
            have yp : y ≠ p := fun w => hp0 (w ▸ hy)
            refine ⟨?_, hAo y (d12 y (List.mem_append_left _ hy))⟩
            rw [hgl]
            show va_up bh p _ y = bh y
            rw [up_at, if_neg yp]
          · rw [hAo p (d12 p (by simp))]
            exact c1.2.1
          · rw [hgl]
            show va_up bh p _ p = _
            rw [up_at, if_pos rfl]
            show oI l2.head? = oI ((none : Option Nat).or l2.head?)
            rfl
      · cases l2 with
        | nil => trivial
        | cons x l2 =>
          obtain ⟨m1, m2, m3⟩ := c4
          have hx1 : x ∉ l1 := fun w => d12 x w List.mem_cons_self
          have hx2 := List.nodup_cons.mp n2.2
          refine ⟨?_, ?_, ?_⟩
          · show va_up ah x (oI l1.getLast?) x = _
            rw [up_at, if_pos rfl]
          · rw [hBo x hx1]
            exact m2
          · refine Ch_congr _ _ (fun y hy => ⟨hBo y (fun w => d12 y w (List.mem_cons_of_mem _ hy)), ?_⟩) m3
            show va_up ah x (oI l1.getLast?) y = ah y
            rw [up_at, if_neg (fun w : y = x => hx2.1 (w ▸ hy))]
    · rw [List.nodup_append]
      exact ⟨n1, n2.2, fun a ha b hb => n3 a ha b (List.mem_cons_of_mem _ hb)⟩
    · have := g4 x
      rw [e] at this
      rw [List.mem_append]
      constructor
      · rintro (w | w)
        · exact ⟨⟨(mem1 x w).1, fun z => hs1 (z ▸ w)⟩, (mem1 x w).2⟩
        · exact ⟨⟨(mem2 x w).1, fun z => n2.1 (z ▸ w)⟩, (mem2 x w).2⟩
      · rintro ⟨⟨w1, w2⟩, w3⟩
        have := this.mpr ⟨w1, w3⟩
        rcases List.mem_append.mp this with z | z
        · exact Or.inl z
        · rcases List.mem_cons.mp z with z | z
          · exact absurd z w2
          · exact Or.inr z
  · simp only [q, if_false]
    have hno : ∀ y, y ∈ ls i → y ∉ l1 ∧ y ∉ l2 ∧ y ≠ s := fun y hy => by
      have w := ((k4 y).mp hy).2
      refine ⟨fun z => ?_, fun z => ?_, fun z => ?_⟩
      · have := (mem1 y z).2
        omega
      · have := (mem2 y z).2
        omega
      · subst z
        exact q w.symm
    refine ⟨?_, Ch_congr _ _ (fun y hy => ⟨hBo y (hno y hy).1, hAo y (hno y hy).2.1⟩) k2, k3, fun x => ?_⟩
    · unfold offH
      cases l1.getLast? with
      | none => show va_up hd _ _ i = _; rw [up_at, if_neg q]; exact k1
      | some p => exact k1
    · rw [k4 x]
      refine ⟨fun ⟨w1, w2⟩ => ⟨⟨w1, fun z => q (by rw [← w2, z])⟩, w2⟩, fun ⟨⟨w1, _⟩, w2⟩ => ⟨w1, w2⟩⟩

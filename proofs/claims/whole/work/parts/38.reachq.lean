/-! ===== levels: one more bowl, in numbers ===== -/
def lxA (L : List Act) (N b s : Nat) (z : LZ) : LZ := L.foldl (lx1 N b s) z
def LAdds (L : List Act) (N b s : Nat) (z z' : LZ) (nw : List Nat) : Prop := z'.2 = z.2 ++ nw ∧ nw.Nodup ∧ (∀ x, z'.1 x = if x ∈ nw then b else z.1 x) ∧ (∀ x ∈ nw, z.1 x = 99 ∧ ∃ a ∈ L, aft N b a s = some x) ∧ ∀ a ∈ L, ∀ t, aft N b a s = some t → z'.1 t ≠ 99
theorem lxA_adds (N s : Nat) {b : Nat} (hb : b ≠ 99) : ∀ (L : List Act) (z : LZ), ∃ nw, LAdds L N b s z (lxA L N b s z) nw
  | [], z => ⟨[], by simp [lxA], List.nodup_nil, fun x => by simp [lxA], fun x h => by simp at h, fun a h => by simp at h⟩
  | a :: L, z => by
    obtain ⟨nw, h1, h2, h3, h4, h5⟩ := lxA_adds N s hb L (lx1 N b s z a)
    have e : lxA (a :: L) N b s z = lxA L N b s (lx1 N b s z a) := rfl
    rw [e]
    unfold lx1 at h1 h3 h4 h5 ⊢
    cases ht : aft N b a s with
    | none =>
      simp only [ht] at h1 h3 h4 h5 ⊢
      refine ⟨nw, h1, h2, h3, fun x hx => ⟨(h4 x hx).1, ?_⟩, fun a' ha' t hta => ?_⟩
      · obtain ⟨a', q1, q2⟩ := (h4 x hx).2
        exact ⟨a', List.mem_cons_of_mem _ q1, q2⟩
      · rcases List.mem_cons.mp ha' with rfl | q
        · rw [ht] at hta; cases hta
        · exact h5 a' q t hta
    | some t =>
      simp only [ht] at h1 h3 h4 h5 ⊢
      by_cases hz : z.1 t = 99
      · simp only [hz, if_true] at h1 h3 h4 h5 ⊢
        have htn : t ∉ nw := fun q => by
          have h9 := (h4 t q).1
          simp only [if_true] at h9
          exact hb h9
        refine ⟨t :: nw, by rw [h1]; simp, List.nodup_cons.mpr ⟨htn, h2⟩, fun x => ?_, fun x hx => ?_, fun a' ha' t' hta => ?_⟩
        · rw [h3 x]
          by_cases hxn : x ∈ nw
          · simp [hxn]
          · by_cases hxt : x = t
            · subst hxt; simp
            · simp [hxn, hxt]
        · rcases List.mem_cons.mp hx with rfl | q
          · exact ⟨hz, a, List.mem_cons_self, ht⟩
          · have h9 := (h4 x q).1
            have hxt : x ≠ t := fun e => htn (e ▸ q)
            simp only [hxt, if_false] at h9
            obtain ⟨a', q1, q2⟩ := (h4 x q).2
            exact ⟨h9, a', List.mem_cons_of_mem _ q1, q2⟩
        · rcases List.mem_cons.mp ha' with rfl | q
          · rw [ht] at hta; cases hta
            rw [h3 t, if_neg htn]
            simpa using hb
          · exact h5 a' q t' hta
      · simp only [hz, if_false] at h1 h3 h4 h5 ⊢
        refine ⟨nw, h1, h2, h3, fun x hx => ⟨(h4 x hx).1, ?_⟩, fun a' ha' t' hta => ?_⟩
        · obtain ⟨a', q1, q2⟩ := (h4 x hx).2
          exact ⟨a', List.mem_cons_of_mem _ q1, q2⟩
        · rcases List.mem_cons.mp ha' with rfl | q
          · rw [ht] at hta; cases hta
            rw [h3 t]
            split
            · exact hb
            · exact hz
          · exact h5 a' q t' hta
/-- what holds while a level is looked for: those added, those looked at -/
def LvI (L : List Act) (N b : Nat) (l0 : Nat → Nat) (D : Nat → Prop) (z : LZ) : Prop :=
  z.2.Nodup ∧ (∀ x ∈ z.2, l0 x = 99 ∧ x < N ∧ Rch L N b x) ∧ (∀ x, z.1 x = if x ∈ z.2 then b else l0 x) ∧ ∀ s, D s → ∀ a ∈ L, ∀ t, aft N b a s = some t → z.1 t ≠ 99
theorem LvI.zok {L : List Act} {N b : Nat} {l0 : Nat → Nat} {D : Nat → Prop} {z : LZ} (h : LvI L N b l0 D z) (hb : b ≠ 99) : Zok N z :=
  ⟨h.1, fun x hx => ⟨(h.2.1 x hx).2.1, by rw [h.2.2.1 x, if_pos hx]; exact hb⟩⟩
theorem LvI.look {L : List Act} {N b : Nat} {l0 : Nat → Nat} {D : Nat → Prop} {z : LZ} (h : LvI L N b l0 D z) (hb : b ≠ 99) {s : Nat} (hs : Rch L N b s) : LvI L N b l0 (fun x => D x ∨ x = s) (lxA L N b s z) ∧ ∃ nw, (lxA L N b s z).2 = z.2 ++ nw := by
  obtain ⟨nw, h1, h2, h3, h4, h5⟩ := lxA_adds N s hb L z
  obtain ⟨q1, q2, q3, q4⟩ := h
  have hd : ∀ x ∈ nw, x ∉ z.2 := fun x hx hz => by
    have e1 := (h4 x hx).1
    rw [q3 x, if_pos hz] at e1
    exact hb e1
  refine ⟨⟨?_, fun x hx => ?_, fun x => ?_, fun s' hs' a ha t hta => ?_⟩, nw, h1⟩
  · rw [h1, List.nodup_append]
    exact ⟨q1, h2, fun x hx y hy e => hd y hy (e ▸ hx)⟩
  · rw [h1] at hx
    rcases List.mem_append.mp hx with z1 | z1
    · exact q2 x z1
    · obtain ⟨e1, a, ha, hta⟩ := h4 x z1
      rw [q3 x, if_neg (hd x z1)] at e1
      exact ⟨e1, (aft_lt hta).1, hs.st ha hta⟩
  · rw [h3 x, h1]
    by_cases hn : x ∈ nw
    · rw [if_pos hn, if_pos (List.mem_append_right _ hn)]
    · rw [if_neg hn, q3 x]
      by_cases hz : x ∈ z.2
      · rw [if_pos hz, if_pos (List.mem_append_left _ hz)]
      · rw [if_neg hz, if_neg (fun q => (List.mem_append.mp q).elim hz hn)]
  · rcases hs' with hs' | rfl
    · have e1 := q4 s' hs' a ha t hta
      rw [h3 t]
      split
      · exact hb
      · exact e1
    · exact h5 a ha t hta
/-- an act gains one thing at most -/
def actOne (a : Act) : Prop := aGn a = 0 ∨ ∃ k, k < 16 ∧ aGn a = 2 ^ k
theorem aft_one {N b s t : Nat} {a : Act} (ha : actOne a) (h : aft N b a s = some t) : pc t ≤ pc s + 1 := by
  have e : t = sdf (s ||| aGn a) (aLs a) := by
    unfold aft at h
    split at h
    · split at h
      · exact (Option.some.inj h).symm
      · cases h
    · cases h
  have h1 : pc t ≤ pc (s ||| aGn a) := by
    rw [e]
    exact sub_pc (fun j hj => by rw [sdf_bit] at hj; simp at hj; simpa using hj.1)
  rcases ha with q | ⟨k, hk, q⟩
  · rw [q, Nat.or_zero] at h1; omega
  · rw [q] at h1
    cases hb : s.testBit k
    · rw [pc_set hb hk] at h1; exact h1
    · rw [or_pow_in hb] at h1; omega
/-- levels are right up to B -/
def LvOK (L : List Act) (N B : Nat) (l0 : Nat → Nat) : Prop := ∀ x, x < N → (∀ c, c ≤ B → (l0 x ≤ c ↔ Rch L N c x)) ∧ (l0 x ≤ B ∨ l0 x = 99)
/-- one more bowl: all that were looked at, and those added, are closed -/
theorem LvOK.more {L : List Act} {N b : Nat} {l0 : Nat → Nat} {z : LZ} (hN : 0 < N) (hone : ∀ a ∈ L, actOne a) (hb : b + 1 < 99) (h : LvOK L N b l0) (h99 : ∀ x, N ≤ x → True) {D : Nat → Prop}
    (hI : LvI L N (b + 1) l0 D z) (hD : ∀ s, s < N → l0 s < b + 1 → pc s = b → D s) (hQ : ∀ s, s ∈ z.2 → D s) : LvOK L N (b + 1) z.1 := by
  obtain ⟨q1, q2, q3, q4⟩ := hI
  have h0 : l0 0 ≤ b := ((h 0 hN).1 b (Nat.le_refl _)).mpr (Rch.z L N b)
  have clo : ∀ s, Rch L N (b + 1) s → (s < N ∧ z.1 s ≠ 99) := by
    refine Rch.in (fun s => s < N ∧ z.1 s ≠ 99) ⟨hN, ?_⟩ (fun s t a hs ha hta => ⟨(aft_lt hta).1, ?_⟩)
    · rw [q3 0]; split <;> omega
    · obtain ⟨hsN, hs9⟩ := hs
      by_cases hq : s ∈ z.2
      · exact q4 s (hQ s hq) a ha t hta
      · rw [q3 s, if_neg hq] at hs9
        have hle : l0 s ≤ b := by
          rcases (h s hsN).2 with r | r
          · exact r
          · exact absurd r hs9
        have hR := ((h s hsN).1 b (Nat.le_refl _)).mp hle
        have hp := (hR.le hN).2
        have hp1 := aft_one (hone a ha) hta
        by_cases hpt : pc t ≤ b
        · have hRt := hR.st ha (aft_down hta hpt)
          have htl := ((h t (aft_lt hta).1).1 b (Nat.le_refl _)).mpr hRt
          rw [q3 t]
          split <;> omega
        · exact q4 s (hD s hsN (by omega) (by omega)) a ha t hta
  intro x hx
  have hx3 := q3 x
  by_cases hz : x ∈ z.2
  · obtain ⟨e1, -, e3⟩ := q2 x hz
    rw [if_pos hz] at hx3
    refine ⟨fun c hc => ?_, Or.inl (by omega)⟩
    by_cases hcb : c = b + 1
    · rw [hcb]
      exact ⟨fun _ => e3, fun _ => by omega⟩
    · have h1 := (h x hx).1 c (by omega)
      constructor
      · intro r; omega
      · intro r
        have := h1.mpr r
        omega
  · rw [if_neg hz] at hx3
    rw [hx3]
    refine ⟨fun c hc => ?_, ?_⟩
    · by_cases hcb : c = b + 1
      · rw [hcb]
        constructor
        · intro r
          rcases (h x hx).2 with e1 | e1
          · exact (((h x hx).1 b (Nat.le_refl _)).mp e1).mono (by omega)
          · omega
        · intro r
          have e2 := (clo x r).2
          rw [hx3] at e2
          rcases (h x hx).2 with e1 | e1
          · omega
          · exact absurd e1 e2
      · exact (h x hx).1 c (by omega)
    · rcases (h x hx).2 with e1 | e1
      · exact Or.inl (by omega)
      · exact Or.inr e1

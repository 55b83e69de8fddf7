/-! ===== the reference: read, net ===== -/
section Pos
variable {t : Nat → Int32} {len n : Nat} {nmv : Nat → Nat}
theorem rnT_at (t : Nat → Int32) (len a : Nat) : (rnT t len a).2.2.2 = (rn t (len - a) a).1 := by
  unfold rnT
  split
  · rfl
  · split <;> rfl
theorem rnT_9 (t : Nat → Int32) (len a : Nat) : (rnT t len a).1 ≠ 9 := by
  unfold rnT
  split
  · have := kOf_le (wv t (rn t (len - a) a).2.1 a 0)
    show kOf _ ≠ 9
    omega
  · split
    · show (8 : Nat) ≠ 9; decide
    · show (11 : Nat) ≠ 9; decide
/-- reading goes on; a semicolon stands ahead of 500 -/
theorem tok_pos (t : Nat → Int32) (len x : Nat) : x ≤ (tok t len x).2.2.2 ∧ ((tok t len x).1 = 9 → x + 1 ≤ (tok t len x).2.2.2 ∧ (tok t len x).2.2.2 ≤ 500) := by
  have hsk := skB_le t (min len 500 - x) x
  have hk : tok t len x = if min len 500 ≤ skB t (min len 500 - x) x then (10, min len 500, 0, skB t (min len 500 - x) x) else if t (skB t (min len 500 - x) x) = 59 then (9, skB t (min len 500 - x) x, 0, skB t (min len 500 - x) x + 1) else if isLB (t (skB t (min len 500 - x) x)) = true ∨ isDB (t (skB t (min len 500 - x) x)) = true then rnT t len (skB t (min len 500 - x) x) else (11, skB t (min len 500 - x) x, 0, skB t (min len 500 - x) x) := rfl
  rw [hk]
  generalize skB t (min len 500 - x) x = a at hsk ⊢
  split
  · exact ⟨hsk.1, fun z => (by cases z)⟩
  · next q =>
    split
    · exact ⟨by show x ≤ a + 1; omega, fun _ => ⟨by show x + 1 ≤ a + 1; omega, by show a + 1 ≤ 500; omega⟩⟩
    · split
      · refine ⟨?_, fun z => absurd z (rnT_9 t len a)⟩
        rw [rnT_at]
        have := (rn_sum t (len - a) a).1
        omega
      · exact ⟨hsk.1, fun z => (by cases z)⟩
/-- c' was read behind c -/
def Aft (t : Nat → Int32) (len : Nat) (c c' : TT) : Prop := ∃ x, c.2.2.2 ≤ x ∧ c' = tok t len x
theorem Aft.nx (c : TT) : Aft t len c (nxt t len c) := ⟨_, Nat.le_refl _, rfl⟩
theorem Aft.tr {c c' c'' : TT} (a : Aft t len c c') (b : Aft t len c' c'') : Aft t len c c'' := by
  obtain ⟨x, h1, rfl⟩ := a
  obtain ⟨y, h2, rfl⟩ := b
  exact ⟨y, Nat.le_trans h1 (Nat.le_trans (tok_pos t len x).1 h2), rfl⟩
theorem rpL_aft : ∀ d parts c p c', (rpL t len nmv n d parts c).2 = some (p, c') → c' = c ∨ Aft t len c c' := by
  intro d
  induction d with
  | zero =>
    intro parts c p c' h
    change (if c.1 = 7 then (match fnd nmv c.2.2.1 0 n with
      | none => ((3, c), none)
      | some k => if parts.testBit k = true then ((3, c), none) else ((4, c), none)) else if parts = 0 then ((1, c), none) else ((0, c), some (parts, c)) : RR).2 = some (p, c') at h
    split at h
    · split at h
      · cases h
      · split at h <;> cases h
    · split at h
      · cases h
      · cases h; exact Or.inl rfl
  | succ d ih =>
    intro parts c p c' h
    change (if c.1 = 7 then (match fnd nmv c.2.2.1 0 n with
      | none => ((3, c), none)
      | some k => if parts.testBit k = true then ((3, c), none) else rpL t len nmv n d (parts ||| 2 ^ k) (nxt t len c)) else if parts = 0 then ((1, c), none) else ((0, c), some (parts, c)) : RR).2 = some (p, c') at h
    split at h
    · split at h
      · cases h
      · split at h
        · cases h
        · rcases ih _ _ _ _ h with z | z
          · rw [z]; exact Or.inr (Aft.nx c)
          · exact Or.inr ((Aft.nx c).tr z)
    · split at h
      · cases h
      · cases h; exact Or.inl rfl
theorem rdPr_aft {c : TT} {p : Nat} {c' : TT} (h : (rdPr t len c).2 = some (p, c')) : c'.1 = 9 ∧ (c' = c ∨ Aft t len c c') := by
  unfold rdPr at h
  split at h
  · split at h
    · split at h
      · next q => cases h; exact ⟨q, Or.inr ((Aft.nx c).tr (Aft.nx _))⟩
      · cases h
    · cases h
  · split at h
    · next q => cases h; exact ⟨q, Or.inl rfl⟩
    · cases h
theorem rwL_aft : ∀ d w m c p c', (rwL t len nmv n d w m c).2 = some (p, c') → c'.1 = 9 ∧ (c' = c ∨ Aft t len c c') := by
  intro d
  induction d with
  | zero =>
    intro w m c p c' h
    change (if 0 < m ∧ c.1 = 9 then ((0, c), some (w, c)) else ((1, c), none) : RR).2 = some (p, c') at h
    split at h
    · next q => cases h; exact ⟨q.2, Or.inl rfl⟩
    · cases h
  | succ d ih =>
    intro w m c p c' h
    change (if c.1 = 7 then (match fnd nmv c.2.2.1 0 n with
      | none => ((3, c), none)
      | some k => if w.testBit k = true then ((3, c), none) else rwL t len nmv n d (w ||| 2 ^ k) (m + 1) (nxt t len c)) else if 0 < m ∧ c.1 = 9 then ((0, c), some (w, c)) else ((1, c), none) : RR).2 = some (p, c') at h
    split at h
    · split at h
      · cases h
      · split at h
        · cases h
        · obtain ⟨z1, z⟩ := ih _ _ _ _ _ h
          refine ⟨z1, Or.inr ?_⟩
          rcases z with z | z
          · rw [z]; exact Aft.nx c
          · exact (Aft.nx c).tr z
    · split at h
      · next q => cases h; exact ⟨q.2, Or.inl rfl⟩
      · cases h
theorem Aft.or {c c' c'' : TT} (a : Aft t len c c') (b : c'' = c' ∨ Aft t len c' c'') : Aft t len c c'' := by
  rcases b with z | z
  · rw [z]; exact a
  · exact a.tr z
theorem rdLn_aft {d d' : Dt} {c c' : TT} (h : (rdLn t len d c).2 = some (d', c')) : c'.1 = 9 ∧ Aft t len c c' := by
  unfold rdLn at h
  split at h
  · split at h
    · next w c2 q =>
      cases h
      obtain ⟨z1, z2⟩ := rwL_aft _ _ _ _ _ _ q
      exact ⟨z1, (Aft.nx c).or z2⟩
    · cases h
  · split at h
    · cases h
    · split at h
      · cases h
      · split at h
        · cases h
        · split at h
          · cases h
          · split at h
            · cases h
            · next u p c3 q =>
              have hc3 : c3 = nxt t len (nxt t len c) ∨ Aft t len (nxt t len (nxt t len c)) c3 := by
                split at q
                · have q2 : (rdPa t len d.2.1 d.1 (nxt t len (nxt t len c))).2 = some (p, c3) := by rw [q]
                  unfold rdPa at q2
                  split at q2
                  · rcases rpL_aft _ _ _ _ _ q2 with z | z
                    · rw [z]; exact Or.inr (Aft.nx _)
                    · exact Or.inr ((Aft.nx _).tr z)
                  · cases q2
                · cases q; exact Or.inl rfl
              have h3 : Aft t len c c3 := ((Aft.nx c).tr (Aft.nx _)).or hc3
              split at h
              · cases h
              · next u2 cs c4 q2 =>
                cases h
                obtain ⟨z1, z2⟩ := rdPr_aft (p := cs) (c' := c') (by rw [q2])
                exact ⟨z1, h3.or z2⟩
theorem Aft.pos {c c' : TT} (a : Aft t len c c') (h9 : c'.1 = 9) : c.2.2.2 + 1 ≤ c'.2.2.2 ∧ c'.2.2.2 ≤ 500 := by
  obtain ⟨x, h1, rfl⟩ := a
  have := (tok_pos t len x).2 h9
  omega
end Pos

/-! ===== after and the class's acts; lay ===== -/
theorem and_or_eq {s nd gn : Nat} (hd : gn &&& nd = 0) : s &&& (nd ||| gn) = nd ↔ s &&& nd = nd ∧ s &&& gn = 0 := by
  have b1 : ∀ i, (gn.testBit i && nd.testBit i) = false := fun i => by rw [← Nat.testBit_and, hd, Nat.zero_testBit]
  constructor
  · intro h
    have hb : ∀ i, (s.testBit i && (nd.testBit i || gn.testBit i)) = nd.testBit i := fun i => by
      have := congrArg (fun x => x.testBit i) h
      simpa only [Nat.testBit_and, Nat.testBit_or] using this
    refine ⟨Nat.eq_of_testBit_eq fun i => ?_, Nat.eq_of_testBit_eq fun i => ?_⟩
    · rw [Nat.testBit_and]
      have h1 := hb i
      have h2 := b1 i
      revert h1 h2
      cases s.testBit i <;> cases nd.testBit i <;> cases gn.testBit i <;> decide
    · rw [Nat.testBit_and, Nat.zero_testBit]
      have h1 := hb i
      have h2 := b1 i
      revert h1 h2
      cases s.testBit i <;> cases nd.testBit i <;> cases gn.testBit i <;> decide
  · rintro ⟨h1, h2⟩
    have a1 : ∀ i, (s.testBit i && nd.testBit i) = nd.testBit i := fun i => by rw [← Nat.testBit_and, h1]
    have a2 : ∀ i, (s.testBit i && gn.testBit i) = false := fun i => by rw [← Nat.testBit_and, h2, Nat.zero_testBit]
    refine Nat.eq_of_testBit_eq fun i => ?_
    rw [Nat.testBit_and, Nat.testBit_or]
    have h3 := a1 i
    have h4 := a2 i
    revert h3 h4
    cases s.testBit i <;> cases nd.testBit i <;> cases gn.testBit i <;> decide
theorem and_pow0 {s x : Nat} : s &&& 2 ^ x = 0 ↔ ¬ s.testBit x = true := by
  constructor
  · intro h q
    have h1 := congrArg (fun y => y.testBit x) h
    simp only [Nat.testBit_and, Nat.testBit_two_pow_self, q, Nat.zero_testBit, Bool.and_self] at h1
    cases h1
  · intro h
    refine Nat.eq_of_testBit_eq fun i => ?_
    rw [Nat.testBit_and, Nat.testBit_two_pow, Nat.zero_testBit]
    by_cases q : x = i
    · subst q
      simp [h]
    · simp [q]
theorem and_pow1 {s x : Nat} : s &&& 2 ^ x = 2 ^ x ↔ s.testBit x = true := by
  rw [← sub_and]
  constructor
  · exact fun h => h x Nat.testBit_two_pow_self
  · intro h j hj
    rw [Nat.testBit_two_pow, decide_eq_true_eq] at hj
    subst hj
    exact h
theorem and_or_sub {s a b : Nat} : s &&& (a ||| b) = a ||| b ↔ s &&& a = a ∧ s &&& b = b := by
  rw [← sub_and, ← sub_and, ← sub_and]
  constructor
  · intro h
    exact ⟨fun j hj => h j (by rw [Nat.testBit_or, hj, Bool.true_or]), fun j hj => h j (by rw [Nat.testBit_or, hj, Bool.or_true])⟩
  · rintro ⟨h1, h2⟩ j hj
    rw [Nat.testBit_or, Bool.or_eq_true] at hj
    exact hj.elim (h1 j) (h2 j)
section Aft
variable {n w wi b x y s : Nat} {P C : Nat → Nat}
theorem aft_mk (po : PartsOK n P) (hx : x < n) (hs : s < 2 ^ n) : aft (2 ^ n) b (mkA P x) s = if s &&& P x = P x ∧ ¬ s.testBit x = true ∧ pc s < b then some (s ||| 2 ^ x) else none := by
  have hd : 2 ^ x &&& P x = 0 := (parts_actW po (w := 0) (mkA P x) (mem_actsOf.mpr (Or.inl ⟨x, hx, rfl⟩))).1
  have e0 : sdf (s ||| 2 ^ x) 0 = s ||| 2 ^ x := by unfold sdf; rw [Nat.and_zero, Nat.xor_zero]
  unfold aft
  show (if s &&& (P x ||| 2 ^ x) = P x then (if sdf (s ||| 2 ^ x) 0 < 2 ^ n ∧ pc (sdf (s ||| 2 ^ x) 0) ≤ b then some (sdf (s ||| 2 ^ x) 0) else none) else none) = _
  rw [e0]
  by_cases q1 : s &&& P x = P x ∧ s &&& 2 ^ x = 0
  · rw [if_pos ((and_or_eq hd).mpr q1)]
    have q2 := and_pow0.mp q1.2
    have hp : pc (s ||| 2 ^ x) = pc s + 1 := pc_set (by simpa using q2) (by have := po.1; omega)
    have hlt : s ||| 2 ^ x < 2 ^ n := or_lt2 hs (p2_lt hx)
    by_cases q3 : pc s < b
    · rw [if_pos ⟨hlt, by omega⟩, if_pos ⟨q1.1, q2, q3⟩]
    · rw [if_neg (fun z => q3 (by have := z.2; omega)), if_neg (fun z => q3 z.2.2)]
  · rw [if_neg (fun z => q1 ((and_or_eq hd).mp z)), if_neg (fun z => q1 ⟨z.1, and_pow0.mpr z.2.1⟩)]
theorem tw_iff {s : Nat} : s &&& tw w P x = tw w P x ↔ ¬ (w / 2 % 2 = 1 ∧ ¬ s &&& P x = P x) := by
  unfold tw
  by_cases q : w / 2 % 2 = 1
  · rw [if_pos q]
    exact ⟨fun z y => y.2 z, fun z => Decidable.byContradiction fun y => z ⟨q, y⟩⟩
  · rw [if_neg q, Nat.and_zero]
    exact ⟨fun _ z => q z.1, fun _ => rfl⟩
theorem aft_wa (hs : s < 2 ^ n) (hp : pc s ≤ b) : aft (2 ^ n) b (waA w P x) s = if s.testBit x = true ∧ ¬ (w / 2 % 2 = 1 ∧ ¬ s &&& P x = P x) then some (sdf s (2 ^ x)) else none := by
  unfold aft
  show (if s &&& ((2 ^ x ||| tw w P x) ||| 0) = (2 ^ x ||| tw w P x) then (if sdf (s ||| 0) (2 ^ x) < 2 ^ n ∧ pc (sdf (s ||| 0) (2 ^ x)) ≤ b then some (sdf (s ||| 0) (2 ^ x)) else none) else none) = _
  rw [Nat.or_zero, Nat.or_zero]
  have hlt : sdf s (2 ^ x) < 2 ^ n := Nat.lt_of_le_of_lt (sdf_le _ _) hs
  have hpc : pc (sdf s (2 ^ x)) ≤ b := Nat.le_trans (sub_pc (fun j hj => by rw [sdf_bit] at hj; simp at hj; exact hj.1)) hp
  have hc : (s &&& (2 ^ x ||| tw w P x) = 2 ^ x ||| tw w P x) ↔ (s.testBit x = true ∧ ¬ (w / 2 % 2 = 1 ∧ ¬ s &&& P x = P x)) := by
    rw [and_or_sub, and_pow1, tw_iff]
  by_cases q : s.testBit x = true ∧ ¬ (w / 2 % 2 = 1 ∧ ¬ s &&& P x = P x)
  · rw [if_pos (hc.mpr q), if_pos ⟨hlt, hpc⟩, if_pos q]
  · rw [if_neg (fun z => q (hc.mp z)), if_neg q]
theorem aft_in (po : PartsOK n P) (hw1 : w % 2 = 1) (hx : x < n) (hyx : y < x) (hb : (P x).testBit y = true) (hs : s < 2 ^ n) (hp : pc s ≤ b) : aft (2 ^ n) b (inA w P x y) s = if s &&& P x = P x ∧ ¬ s.testBit x = true ∧ ¬ (w / 2 % 2 = 1 ∧ ¬ s &&& P y = P y) then some (sdf s (2 ^ y) ||| 2 ^ x) else none := by
  have hn := po.1
  have hd : 2 ^ x &&& (P x ||| tw w P y) = 0 := (parts_actW po (w := w) (inA w P x y) (mem_actsOf.mpr (Or.inr (Or.inr ⟨hw1, x, y, hx, hyx, hb, rfl⟩)))).1
  have e0 : sdf (s ||| 2 ^ x) (2 ^ y) = sdf s (2 ^ y) ||| 2 ^ x := by
    refine Nat.eq_of_testBit_eq fun i => ?_
    rw [bit_sdf_pow, bit_or_pow, bit_or_pow, bit_sdf_pow]
    by_cases q : y = i
    · subst q
      simp [show ¬ x = y by omega]
    · simp [q]
  unfold aft
  show (if s &&& ((P x ||| tw w P y) ||| 2 ^ x) = (P x ||| tw w P y) then (if sdf (s ||| 2 ^ x) (2 ^ y) < 2 ^ n ∧ pc (sdf (s ||| 2 ^ x) (2 ^ y)) ≤ b then some (sdf (s ||| 2 ^ x) (2 ^ y)) else none) else none) = _
  rw [e0]
  have hc : (s &&& ((P x ||| tw w P y) ||| 2 ^ x) = (P x ||| tw w P y)) ↔ (s &&& P x = P x ∧ ¬ s.testBit x = true ∧ ¬ (w / 2 % 2 = 1 ∧ ¬ s &&& P y = P y)) := by
    rw [and_or_eq hd, and_or_sub, and_pow0, tw_iff]
    exact ⟨fun z => ⟨z.1.1, z.2, z.1.2⟩, fun z => ⟨⟨z.1, z.2.2⟩, z.2.1⟩⟩
  by_cases q : s &&& P x = P x ∧ ¬ s.testBit x = true ∧ ¬ (w / 2 % 2 = 1 ∧ ¬ s &&& P y = P y)
  · have hsy : s.testBit y = true := (sub_and.mpr q.1) y hb
    have h1 := pc_clr hsy (by omega)
    have hnx : (sdf s (2 ^ y)).testBit x = false := by
      rw [sdf_bit]
      have : s.testBit x = false := by simpa using q.2.1
      rw [this]
      rfl
    have h2 := pc_set hnx (by omega)
    rw [if_pos (hc.mpr q), if_pos ⟨or_lt2 (Nat.lt_of_le_of_lt (sdf_le _ _) hs) (p2_lt hx), by omega⟩, if_pos q]
  · rw [if_neg (fun z => q (hc.mp z)), if_neg q]
end Aft
section Lay
variable {h : AH} {n w wi b : Nat} {P C : Nat → Nat} {Q : Option Value → AH → Prop}
/-- what a search's start leaves: ways, bowls -/
def MWB (h : AH) (w b : Nat) : Prop := hI h 67 24 = nI w ∧ hI h 67 25 = nI b ∧ w < 8 ∧ b ≤ 14
theorem s178a {a : Act} {s : Nat} (ms : MS0 h) (nt : MNt h n P wi) (po : PartsOK n P) (wb : MWB h w b) (ha : a ∈ actsOf n P w) (hs : s < 2 ^ n) (hp : pc s ≤ b) : WPM 178 [.ref 67, .int (nI s), .int (nI a.1)] h Q ↔ Q (some (.int (oI (aft (2 ^ n) b a s)))) h := by
  obtain ⟨h24, h25, hw, hb⟩ := wb
  have hn := po.1
  rcases mem_actsOf.mp ha with ⟨x, hx, rfl⟩ | ⟨x, hx, rfl⟩ | ⟨hw1, x, y, hx, hy, hb', rfl⟩
  · rw [aft_mk po hx hs]
    exact after_mk ms nt po h25 (by omega) hx hs
  · rw [aft_wa hs hp]
    exact after_wa ms nt po h24 hw hx hs
  · rw [aft_in po hw1 hx hy hb' hs hp]
    have := after_in (Q := Q) (y := y) ms nt po h24 hw hx (by omega) hs
    simp only [hw1, hb', zz] at this
    exact this
theorem up_up {α : Type} (f : Nat → α) (k : Nat) (a b : α) : va_up (va_up f k a) k b = va_up f k b := by
  funext j
  rw [up_at, up_at, up_at]
  split <;> rfl
/-- the row holds the numbers -/
def RowI (f : Nat → Int32) (l : List Nat) : Prop := ∀ j v, l[j]? = some v → f j = nI v
theorem RowI.nil (f : Nat → Int32) : RowI f [] := fun j v h => by simp at h
theorem RowI.add {f : Nat → Int32} {l : List Nat} (r : RowI f l) (v : Nat) : RowI (va_up f l.length (nI v)) (l ++ [v]) := by
  intro j u hj
  rw [up_at]
  by_cases q : j < l.length
  · rw [List.getElem?_append_left q] at hj
    rw [if_neg (by omega)]
    exact r j u hj
  · rw [List.getElem?_append_right (by omega)] at hj
    have hj0 : j - l.length = 0 := by
      rcases Nat.eq_zero_or_pos (j - l.length) with z | z
      · exact z
      · rw [List.getElem?_eq_none (by simp; omega)] at hj
        cases hj
    rw [hj0] at hj
    cases hj
    rw [if_pos (by omega)]
def LyG (h : AH) (w b k : Nat) : Nat → Int32 := va_up (va_up (va_up (hI h 67) 24 (nI w)) 25 (nI b)) 23 (nI k)
def LHp (h : AH) (w b k : Nat) (ar : Nat → Int32) : AH := setI (setI h 67 (LyG h w b k)) 79 ar
theorem LHp_r (h : AH) (w b : Nat) : ∀ k ar, hT (LHp h w b k ar) = hT h ∧ hL (LHp h w b k ar) = hL h ∧ hR (LHp h w b k ar) = hR h ∧ hI (LHp h w b k ar) 72 = hI h 72 ∧ hI (LHp h w b k ar) 70 = hI h 70 ∧ hI (LHp h w b k ar) 67 23 = nI k ∧ (∀ v, sI (LHp h w b k ar) 79 k v = LHp h w b k (va_up ar k v)) ∧ sI (LHp h w b k ar) 67 23 (nI k + 1) = LHp h w b (k + 1) ar := by
  intro k ar
  refine ⟨rfl, rfl, rfl, rfl, rfl, rfl, fun v => sI_setI _ _ _ _ _, ?_⟩
  unfold LHp LyG
  rw [sI_setI_o (by decide), sI_setI, up_up, nI_1]
theorem s177 {k : Nat} {ar : Nat → Int32} (ms : MS0 h) (hk : k < 112) (v : Int32) : WPM 177 [.ref 67, .int v] (LHp h w b k ar) Q ↔ Q none (LHp h w b (k + 1) (va_up ar k v)) := by
  have hr := LHp_r h w b
  have c1 : (nI k).toNatClampNeg = k := nI_clamp (by omega)
  have i1 : inb (nI k) 112 = true := inb_nI hk (by decide)
  simp only [we177, w177, hr, ms, c1, i1, zz]
def rowsN (P : Nat → Nat) (w m : Nat) : List Nat := if w % 2 = 1 then (List.range m).flatMap (fun x => (ysA P x x).map (fun y => 100 + 20 * x + y)) else []
theorem acts_num : (actsOf n P w).map (fun a => a.1) = List.range n ++ (List.range n).map (fun x => 20 + x) ++ rowsN P w n := by
  unfold actsOf rowsN
  rw [List.map_append, List.map_append, List.map_map, List.map_map]
  congr 1
  · congr 1
    rw [show ((fun a : Act => a.1) ∘ mkA P) = id from rfl, List.map_id]
  · split
    · rw [List.map_flatMap]
      congr 1
      funext x
      unfold rowA
      rw [List.map_map]
      rfl
    · rfl
theorem rowsN_len (po : PartsOK n P) : ∀ m, m ≤ n → (rowsN P w m).length ≤ 6 * m := by
  intro m hm
  have h1 := rows_len (w := w) (n := n) (P := P) (fun x hx => (po.2 x hx).2) (by have := po.1; omega) m hm
  unfold rowsN
  split
  · refine Nat.le_trans (Nat.le_of_eq ?_) h1
    rw [List.length_flatMap, List.length_flatMap]
    congr 1
    refine List.map_congr_left fun x _ => ?_
    unfold rowA
    rw [List.length_map, List.length_map]
  · exact Nat.zero_le _
theorem ysA_succ (P : Nat → Nat) (x m : Nat) : ysA P x (m + 1) = if (P x).testBit m = true then ysA P x m ++ [m] else ysA P x m := by
  unfold ysA
  rw [List.range_succ, List.filter_append]
  by_cases q : (P x).testBit m = true
  · simp [q]
  · simp [q]
theorem ysA_big (po : PartsOK n P) {x : Nat} (hx : x < n) : ysA P x n = ysA P x x := by
  have : ∀ d, ysA P x (x + d) = ysA P x x := by
    intro d
    induction d with
    | zero => rfl
    | succ d ih =>
      rw [show x + (d + 1) = (x + d) + 1 by omega, ysA_succ, ih, if_neg]
      rw [Nat.testBit_lt_two_pow (Nat.lt_of_lt_of_le (po.2 x hx).1 (p2_le (by omega)))]
      decide
  have h1 := this (n - x)
  rw [show x + (n - x) = n by omega] at h1
  exact h1
theorem rowsN_succ (hw : w % 2 = 1) (m : Nat) : rowsN P w (m + 1) = rowsN P w m ++ (ysA P m m).map (fun y => 100 + 20 * m + y) := by
  unfold rowsN
  rw [if_pos hw, if_pos hw, List.range_succ, List.flatMap_append]
  simp
theorem lay_3 (ms : MS0 h) (nt : MNt h n P wi) (po : PartsOK n P) (hw : w < 8) (k : ∀ ar, RowI ar ((actsOf n P w).map (fun a => a.1)) → Q none (LHp h w b (actsOf n P w).length ar)) :
    ∀ d x ar y4, n - x = d → x ≤ n → RowI ar (List.range n ++ (List.range n).map (fun x => 20 + x) ++ rowsN P w x) → WP 176 66 [.ref 67, .int (nI w), .int (nI b), .int (nI x), y4] [] (LHp h w b (List.range n ++ (List.range n).map (fun x => 20 + x) ++ rowsN P w x).length ar) Q := by
  have hr := LHp_r h w b
  have hn := po.1
  obtain ⟨n0, -, n2⟩ := nt
  have hw1 := wy1' w hw
  have hln : ∀ m, m ≤ n → (List.range n ++ (List.range n).map (fun x => 20 + x) ++ rowsN P w m).length ≤ 2 * n + 6 * m := fun m hm => by
    have := rowsN_len (w := w) po m hm
    simp only [List.length_append, List.length_map, List.length_range]
    omega
  intro d
  induction d with
  | zero =>
    intro x ar y4 hd hx hr'
    have hxn : x = n := by omega
    subst hxn
    have hle : nI x ≤ nI x := nI_le (Nat.le_refl _) (by omega)
    rw [w176_66]
    simp only [w176_a, w176_b, hr, ms, mz, n0, hle, zz]
    have := k ar (by rw [acts_num]; exact hr')
    rw [show (actsOf x P w).length = ((actsOf x P w).map (fun a => a.1)).length by rw [List.length_map], acts_num] at this
    exact this
  | succ d ih =>
    intro x ar y4 hd hx hr'
    have hxn : x < n := by omega
    have hle : ¬ nI n ≤ nI x := nI_ge hxn (by omega)
    have c1 : (nI x).toNatClampNeg = x := nI_clamp (by omega)
    have i1 : inb (nI x) 28 = true := inb_nI (by omega) (by decide)
    have hP := n2 x hxn
    have hPx := s_lt hn (po.lt hxn)
    rw [w176_66]
    simp only [w176_a, w176_b, hr, ms, mz, n0, hle, zz]
    by_cases q1 : w % 2 = 1
    · have lp : ∀ e y ar, n - y = e → y ≤ n → RowI ar (List.range n ++ (List.range n).map (fun x => 20 + x) ++ rowsN P w x ++ (ysA P x y).map (fun y => 100 + 20 * x + y)) → WP 176 79 [.ref 67, .int (nI w), .int (nI b), .int (nI x), .int (nI y)] [] (LHp h w b (List.range n ++ (List.range n).map (fun x => 20 + x) ++ rowsN P w x ++ (ysA P x y).map (fun y => 100 + 20 * x + y)).length ar) Q := by
        intro e
        induction e with
        | zero =>
          intro y ar he hy hra
          have hyn : y = n := by omega
          subst hyn
          have hle2 : nI y ≤ nI y := nI_le (Nat.le_refl _) (by omega)
          rw [w176_79]
          simp only [w176_a, w176_b, hr, ms, mz, n0, hle2, zz, nI_1]
          have := ih (x + 1) ar (.int (nI y)) (by omega) (by omega)
          rw [rowsN_succ q1, ← ysA_big po hxn, ← List.append_assoc] at this
          exact this hra
        | succ e ihe =>
          intro y ar he hy hra
          have hyn : y < n := by omega
          have hle2 : ¬ nI n ≤ nI y := nI_ge hyn (by omega)
          have e1 := mtb1 (s := P x) (x := y) (by omega) (by omega)
          have hs := ysA_succ P x y
          rw [w176_79]
          by_cases q2 : (P x).testBit y = true
          · rw [if_pos q2] at hs
            have hlen : (List.range n ++ (List.range n).map (fun x => 20 + x) ++ rowsN P w x ++ (ysA P x y).map (fun y => 100 + 20 * x + y)).length < 112 := by
              have h1 := hln x (by omega)
              have h2 : pcn (y + 1) (P x) ≤ pc (P x) := pcn_mle _ (by omega)
              have h3 := (po.2 x hxn).2
              have h4 : pcn (y + 1) (P x) = pcn y (P x) + (if (P x).testBit y then 1 else 0) := rfl
              rw [if_pos q2] at h4
              rw [List.length_append, List.length_map, ysA_len]
              omega
            have e5 : (100 : Int32) + 20 * nI x + nI y = nI (100 + 20 * x + y) := by
              rw [← nI_add, ← nI_add, ← pk_mul]
              rfl
            have hput := fun (Q : Option Value → AH → Prop) (v : Int32) => s177 (Q := Q) (w := w) (b := b) (ar := ar) ms hlen v
            simp only [w176_a, w176_b, hr, ms, mz, n0, hle2, hw1, q1, c1, i1, hP, e1, q2, e5, hput, zz, nI_1]
            have := ihe (y + 1) (va_up ar (List.range n ++ (List.range n).map (fun x => 20 + x) ++ rowsN P w x ++ (ysA P x y).map (fun y => 100 + 20 * x + y)).length (nI (100 + 20 * x + y))) (by omega) (by omega)
            rw [hs, List.map_append, ← List.append_assoc] at this
            have h6 := this (hra.add _)
            rw [List.length_append (as := List.range n ++ (List.range n).map (fun x => 20 + x) ++ rowsN P w x ++ (ysA P x y).map (fun y => 100 + 20 * x + y))] at h6
            exact h6
          · rw [if_neg q2] at hs
            simp only [w176_a, w176_b, hr, ms, mz, n0, hle2, hw1, q1, c1, i1, hP, e1, q2, zz, nI_1]
            have := ihe (y + 1) ar (by omega) (by omega)
            rw [hs] at this
            exact this hra
      have h0 := lp n 0 ar (by omega) (Nat.zero_le _)
      have e0 : ysA P x 0 = [] := rfl
      rw [e0, List.map_nil, List.append_nil, nI_0] at h0
      exact h0 hr'
    · have hz : (0 : Nat) < n := by omega
      have hle2 : ¬ nI n ≤ 0 := nI_ge (a := 0) hz (by omega)
      rw [w176_79]
      simp only [w176_a, w176_b, hr, ms, mz, n0, hle2, hw1, q1, zz, nI_1]
      have := ih (x + 1) ar (.int 0) (by omega) (by omega)
      have er : rowsN P w (x + 1) = rowsN P w x := by
        unfold rowsN
        rw [if_neg q1, if_neg q1]
      rw [er] at this
      exact this hr'
theorem s176 (ms : MS0 h) (nt : MNt h n P wi) (po : PartsOK n P) (hw : w < 8) (k : ∀ ar, RowI ar ((actsOf n P w).map (fun a => a.1)) → Q none (LHp h w b (actsOf n P w).length ar)) : WPM 176 [.ref 67, .int (nI w), .int (nI b)] h Q := by
  have hr := LHp_r h w b
  have hn := po.1
  have n0 := nt.1
  have l3 := lay_3 (b := b) ms nt po hw k
  have l2 : ∀ d x ar, n - x = d → x ≤ n → RowI ar (List.range n ++ (List.range x).map (fun x => 20 + x)) → WP 176 40 [.ref 67, .int (nI w), .int (nI b), .int (nI x), .retAddr 0] [] (LHp h w b (List.range n ++ (List.range x).map (fun x => 20 + x)).length ar) Q := by
    intro d
    induction d with
    | zero =>
      intro x ar hd hx hra
      have hxn : x = n := by omega
      subst hxn
      have hle : nI x ≤ nI x := nI_le (Nat.le_refl _) (by omega)
      rw [w176_40]
      simp only [w176_a, w176_b, hr, ms, mz, n0, hle, zz]
      have h0 := l3 x 0 ar (.retAddr 0) (by omega) (Nat.zero_le _)
      have e0 : rowsN P w 0 = [] := by unfold rowsN; split <;> rfl
      rw [e0, List.append_nil, nI_0] at h0
      exact h0 hra
    | succ d ih =>
      intro x ar hd hx hra
      have hxn : x < n := by omega
      have hle : ¬ nI n ≤ nI x := nI_ge hxn (by omega)
      have hlen : (List.range n ++ (List.range x).map (fun x => 20 + x)).length < 112 := by
        simp only [List.length_append, List.length_map, List.length_range]
        omega
      have e5 : (20 : Int32) + nI x = nI (20 + x) := nI_add 20 x
      have hput := fun (Q : Option Value → AH → Prop) (v : Int32) => s177 (Q := Q) (w := w) (b := b) (ar := ar) ms hlen v
      rw [w176_40]
      simp only [w176_a, w176_b, hr, ms, mz, n0, hle, e5, hput, zz, nI_1]
      have := ih (x + 1) (va_up ar (List.range n ++ (List.range x).map (fun x => 20 + x)).length (nI (20 + x))) (by omega) (by omega)
      rw [List.range_succ, List.map_append, ← List.append_assoc] at this
      have h6 := this (hra.add _)
      rw [List.length_append (as := List.range n ++ (List.range x).map (fun x => 20 + x))] at h6
      exact h6
  have l1 : ∀ d x ar, n - x = d → x ≤ n → RowI ar (List.range x) → WP 176 17 [.ref 67, .int (nI w), .int (nI b), .int (nI x), .retAddr 0] [] (LHp h w b (List.range x).length ar) Q := by
    intro d
    induction d with
    | zero =>
      intro x ar hd hx hra
      have hxn : x = n := by omega
      subst hxn
      have hle : nI x ≤ nI x := nI_le (Nat.le_refl _) (by omega)
      rw [w176_17]
      simp only [w176_a, w176_b, hr, ms, mz, n0, hle, zz]
      have h0 := l2 x 0 ar (by omega) (Nat.zero_le _)
      rw [List.range_zero, List.map_nil, List.append_nil, nI_0] at h0
      exact h0 hra
    | succ d ih =>
      intro x ar hd hx hra
      have hxn : x < n := by omega
      have hle : ¬ nI n ≤ nI x := nI_ge hxn (by omega)
      have hlen : (List.range x).length < 112 := by
        rw [List.length_range]
        omega
      have hput := fun (Q : Option Value → AH → Prop) (v : Int32) => s177 (Q := Q) (w := w) (b := b) (ar := ar) ms hlen v
      rw [w176_17]
      simp only [w176_a, w176_b, hr, ms, mz, n0, hle, hput, zz, nI_1]
      have := ih (x + 1) (va_up ar (List.range x).length (nI x)) (by omega) (by omega)
      rw [List.range_succ] at this
      have h6 := this (hra.add _)
      rw [List.length_append] at h6
      exact h6
  have e0 : sI (sI (sI h 67 24 (nI w)) 67 25 (nI b)) 67 23 0 = LHp h w b 0 (hI h 79) := by
    unfold LHp LyG
    rw [sI_as h, sI_setI, sI_setI, nI_0]
    exact (setI_id _ 79).symm
  rw [we176]
  simp only [w176_a, ms, hs_sI, e0, zz]
  have h0 := l1 n 0 (hI h 79) (by omega) (Nat.zero_le _) (RowI.nil _)
  rw [List.range_zero, List.length_nil, nI_0] at h0
  exact h0
theorem LHp_mo (h : AH) (w b k : Nat) (ar : Nat → Int32) : MO (fun a => a = 79) (fun j => j = 23 ∨ j = 24 ∨ j = 25) (fun _ => False) (fun _ => False) h (LHp h w b k ar) := by
  unfold LHp
  refine (MO.rf.r67 fun j hj => ?_).rI ar rfl
  unfold LyG
  rw [up_at, up_at, up_at, if_neg (fun q => hj (Or.inl q)), if_neg (fun q => hj (Or.inr (Or.inr q))), if_neg (fun q => hj (Or.inr (Or.inl q)))]
end Lay

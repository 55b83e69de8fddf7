/-! ===== sets as numbers ===== -/
/-- how many of the first i are in s -/
def pcn : Nat → Nat → Nat
  | 0, _ => 0
  | i + 1, s => pcn i s + (if s.testBit i then 1 else 0)
def pc (s : Nat) : Nat := pcn 16 s
theorem pcn_le : ∀ i s, pcn i s ≤ i
  | 0, _ => Nat.le_refl _
  | i + 1, s => by
    have := pcn_le i s
    unfold pcn
    split <;> omega
theorem pcn_congr {s t : Nat} : ∀ i, (∀ j, j < i → s.testBit j = t.testBit j) → pcn i s = pcn i t
  | 0, _ => rfl
  | i + 1, h => by
    unfold pcn
    rw [pcn_congr i (fun j hj => h j (by omega)), h i (by omega)]
theorem pcn_mono {s t : Nat} : ∀ i, (∀ j, j < i → s.testBit j = true → t.testBit j = true) → pcn i s ≤ pcn i t
  | 0, _ => Nat.le_refl _
  | i + 1, h => by
    have h1 := pcn_mono (s := s) (t := t) i (fun j hj => h j (by omega))
    have h2 := h i (by omega)
    unfold pcn
    cases hs : s.testBit i <;> cases ht : t.testBit i <;> simp_all <;> omega
theorem bit_or_pow (s k j : Nat) : (s ||| 2 ^ k).testBit j = (s.testBit j || decide (k = j)) := by
  rw [Nat.testBit_or, Nat.testBit_two_pow]
theorem bit_sdf_pow (s k j : Nat) : (sdf s (2 ^ k)).testBit j = (s.testBit j && !decide (k = j)) := by
  rw [sdf_bit, Nat.testBit_two_pow]
theorem pcn_set {s k : Nat} (hk : s.testBit k = false) : ∀ i, k < i → pcn i (s ||| 2 ^ k) = pcn i s + 1
  | 0, h => by omega
  | i + 1, h => by
    unfold pcn
    rw [bit_or_pow]
    by_cases hi : k = i
    · subst hi
      rw [pcn_congr k (t := s) (fun j hj => by rw [bit_or_pow]; simp [show ¬ k = j by omega]), hk]
      simp
    · rw [pcn_set hk i (by omega)]
      simp only [hi, decide_false, Bool.or_false]
      omega
theorem pc_set {s k : Nat} (hk : s.testBit k = false) (h : k < 16) : pc (s ||| 2 ^ k) = pc s + 1 := pcn_set hk 16 h
theorem or_pow_in {s k : Nat} (hk : s.testBit k = true) : s ||| 2 ^ k = s := by
  apply Nat.eq_of_testBit_eq
  intro j
  rw [bit_or_pow]
  by_cases h : k = j
  · subst h; simp [hk]
  · simp [h]
theorem pc_clr {s k : Nat} (hk : s.testBit k = true) (h : k < 16) : pc (sdf s (2 ^ k)) + 1 = pc s := by
  have h1 : (sdf s (2 ^ k)).testBit k = false := by rw [bit_sdf_pow]; simp
  rw [← pc_set h1 h]
  congr 1
  apply Nat.eq_of_testBit_eq
  intro j
  rw [bit_or_pow, bit_sdf_pow]
  by_cases h : k = j
  · subst h; simp [hk]
  · simp [h]
theorem pcn_half : ∀ i s, pcn (i + 1) s = s % 2 + pcn i (s / 2)
  | 0, s => by
    unfold pcn pcn
    rw [Nat.testBit_zero]
    by_cases h : s % 2 = 1
    · simp [h]
    · have : s % 2 = 0 := by omega
      simp [this]
  | i + 1, s => by
    rw [pcn, pcn_half i s]
    conv => rhs; rw [pcn]
    rw [Nat.testBit_succ]
    omega
theorem pcn_zero : ∀ i, pcn i 0 = 0
  | 0 => rfl
  | i + 1 => by unfold pcn; rw [pcn_zero i]; simp
theorem and_pred {v : Nat} (h : v ≠ 0) : v &&& (v - 1) = if v % 2 = 1 then v - 1 else 2 * ((v / 2) &&& (v / 2 - 1)) := by
  apply Nat.eq_of_testBit_eq
  intro j
  rw [Nat.testBit_and]
  by_cases ho : v % 2 = 1
  · rw [if_pos ho]
    cases j with
    | zero =>
      have h2 : (v - 1) % 2 = 0 := by omega
      simp [Nat.testBit_zero, h2]
    | succ j =>
      rw [Nat.testBit_succ, Nat.testBit_succ, show (v - 1) / 2 = v / 2 by omega, Bool.and_self]
  · rw [if_neg ho]
    cases j with
    | zero =>
      have h2 : v % 2 = 0 := by omega
      simp [Nat.testBit_zero, h2]
    | succ j =>
      rw [Nat.testBit_succ, Nat.testBit_succ, Nat.testBit_succ, show (v - 1) / 2 = v / 2 - 1 by omega, show 2 * (v / 2 &&& v / 2 - 1) / 2 = (v / 2 &&& v / 2 - 1) by omega, Nat.testBit_and]
theorem pcn_pred : ∀ i v, v ≠ 0 → v < 2 ^ i → pcn i (v &&& (v - 1)) + 1 = pcn i v
  | 0, v, h, h2 => by simp at h2; omega
  | i + 1, v, h, h2 => by
    rw [and_pred h]
    by_cases ho : v % 2 = 1
    · rw [if_pos ho, pcn_half, pcn_half, show (v - 1) / 2 = v / 2 by omega]
      omega
    · rw [if_neg ho, pcn_half, pcn_half]
      have h3 : v / 2 ≠ 0 := by omega
      have h4 := pcn_pred i (v / 2) h3 (by rw [Nat.pow_succ] at h2; omega)
      rw [show 2 * (v / 2 &&& v / 2 - 1) / 2 = (v / 2 &&& v / 2 - 1) by omega]
      omega
theorem pc_pred {v : Nat} (h : v ≠ 0) (h2 : v < 65536) : pc (v &&& (v - 1)) + 1 = pc v := pcn_pred 16 v h h2
theorem pc_0 : pc 0 = 0 := pcn_zero 16
theorem pc_pos {v : Nat} (h : v ≠ 0) (h2 : v < 65536) : 0 < pc v := by
  have := pc_pred h h2
  omega
theorem pc_le (s : Nat) : pc s ≤ 16 := pcn_le 16 s
theorem pcn_big : ∀ (i n s : Nat), s < 2 ^ n → n ≤ i → pcn i s = pcn n s
  | 0, n, s, _, h => by rw [show n = 0 by omega]
  | i + 1, n, s, hs, h => by
    by_cases hn : n = i + 1
    · rw [hn]
    · rw [show pcn (i + 1) s = pcn i s + (if s.testBit i then 1 else 0) from rfl, pcn_big i n s hs (by omega), Nat.testBit_lt_two_pow (Nat.lt_of_lt_of_le hs (Nat.pow_le_pow_right (by omega) (by omega)))]
      simp
theorem pc_lt {s n : Nat} (hs : s < 2 ^ n) (hn : n ≤ 16) : pc s ≤ n := by
  unfold pc
  rw [pcn_big 16 n s hs hn]
  exact pcn_le n s
/-- s is a part of t -/
def sub (s t : Nat) : Prop := ∀ j, s.testBit j = true → t.testBit j = true
theorem sub_and {s t : Nat} : sub s t ↔ t &&& s = s := by
  constructor
  · intro h
    apply Nat.eq_of_testBit_eq
    intro j
    rw [Nat.testBit_and]
    cases hs : s.testBit j
    · simp
    · simp [h j hs]
  · intro h j hj
    rw [← h, Nat.testBit_and] at hj
    simp at hj
    exact hj.1
theorem sub_sdf {s t : Nat} : sub s t ↔ sdf s t = 0 := by
  constructor
  · intro h
    apply Nat.eq_of_testBit_eq
    intro j
    rw [sdf_bit, Nat.zero_testBit]
    cases hs : s.testBit j
    · simp
    · simp [h j hs]
  · intro h j hj
    have := congrArg (fun x => x.testBit j) h
    simp only [sdf_bit, Nat.zero_testBit, hj, Bool.true_and] at this
    simpa using this
theorem sub_le {s t : Nat} (h : sub s t) : s ≤ t := by
  rw [sub_and] at h
  rw [← h]
  exact Nat.and_le_left
theorem sub_pc {s t : Nat} (h : sub s t) : pc s ≤ pc t := pcn_mono 16 (fun j _ => h j)
/-! Integer.bitCount -/
def bcI (x : Int32) : Int32 :=
  let a := x - ((x.toUInt32 >>> ((1 : Int32).toUInt32 &&& Int32.toUInt32 31)).toInt32 &&& nI 1431655765)
  let b := (a &&& nI 858993459) + ((a.toUInt32 >>> ((2 : Int32).toUInt32 &&& Int32.toUInt32 31)).toInt32 &&& nI 858993459)
  let c := (b + (b.toUInt32 >>> ((4 : Int32).toUInt32 &&& Int32.toUInt32 31)).toInt32) &&& nI 252645135
  let d := c + (c.toUInt32 >>> ((8 : Int32).toUInt32 &&& Int32.toUInt32 31)).toInt32
  let e := d + (d.toUInt32 >>> ((16 : Int32).toUInt32 &&& Int32.toUInt32 31)).toInt32
  e &&& 63

/-! ===== the reference's cooks, in numbers ===== -/
/-- the subsets of a set, falling -/
theorem subm : ∀ t s m : Nat, 0 < t → t &&& s = t → m &&& s = m → m < t → m ≤ (t - 1) &&& s := by
  intro t
  induction t using Nat.strongRecOn with
  | _ t ih =>
    intro s m h0 ht hm hlt
    have a1 : ((t - 1) &&& s) / 2 = (t - 1) / 2 &&& s / 2 := Nat.and_div_two
    have a2 : (m &&& s) / 2 = m / 2 &&& s / 2 := Nat.and_div_two
    have a3 : (t &&& s) / 2 = t / 2 &&& s / 2 := Nat.and_div_two
    rw [hm] at a2
    rw [ht] at a3
    have b1 : decide (((t - 1) &&& s) % 2 = 1) = (decide ((t - 1) % 2 = 1) && decide (s % 2 = 1)) := by
      rw [← Nat.testBit_zero, ← Nat.testBit_zero, ← Nat.testBit_zero, Nat.testBit_and]
    have b2 : decide ((m &&& s) % 2 = 1) = (decide (m % 2 = 1) && decide (s % 2 = 1)) := by
      rw [← Nat.testBit_zero, ← Nat.testBit_zero, ← Nat.testBit_zero, Nat.testBit_and]
    rw [hm] at b2
    rw [← Bool.decide_and, decide_eq_decide] at b1 b2
    generalize (t - 1) &&& s = w at a1 b1 ⊢
    by_cases q : t % 2 = 1
    · rw [show (t - 1) / 2 = t / 2 by omega, ← a3] at a1
      omega
    · have e1 : (t - 1) / 2 = t / 2 - 1 := by omega
      have := ih (t / 2) (by omega) (s / 2) (m / 2) (by omega) a3.symm a2.symm (by omega)
      rw [e1] at a1
      omega
theorem subm_in (t s : Nat) : ((t - 1) &&& s) &&& s = (t - 1) &&& s := by
  rw [Nat.and_assoc, Nat.and_self]
/-- an hour with so much left: what may be full behind it -/
def ckL (n : Nat) (P : Nat → Nat) (ck b l t : Nat) : Prop := ∃ m, m &&& mcN P l n = m ∧ pc m ≤ ck ∧ pc l + pc m ≤ b ∧ t = l ||| m
def ckS (n : Nat) (P : Nat → Nat) (ck b s t : Nat) : Prop := ∃ l, l &&& s = l ∧ ckL n P ck b l t
def VV (n : Nat) (P : Nat → Nat) (ck b : Nat) : Nat → Nat → Prop := GK (fun s => s = 0) (ckS n P ck b)
theorem mcN_dis {P : Nat → Nat} {l : Nat} : ∀ x, l &&& mcN P l x = 0
  | 0 => Nat.and_zero l
  | x + 1 => by
    have ih := mcN_dis (P := P) (l := l) x
    show l &&& (if _ then _ else _) = 0
    split
    · next q =>
      rw [Nat.and_or_distrib_left, ih, Nat.zero_or]
      exact and_pow0.mpr (by rw [q.1]; decide)
    · exact ih
theorem ck_dis {P : Nat → Nat} {l m n : Nat} (h : m &&& mcN P l n = m) : l &&& m = 0 := by
  rw [← h, Nat.and_comm m, ← Nat.and_assoc, mcN_dis, Nat.zero_and]
theorem and_le2 {a s n : Nat} (h : a &&& s = a) (hs : s < 2 ^ n) : a < 2 ^ n := by
  have : a &&& s ≤ s := Nat.and_le_right
  omega
theorem ckS_lt {n ck b s t : Nat} {P : Nat → Nat} (hs : s < 2 ^ n) (h : ckS n P ck b s t) : t < 2 ^ n := by
  obtain ⟨l, h1, m, h2, -, -, rfl⟩ := h
  exact or_lt2 (and_le2 h1 hs) (and_le2 h2 (mcN_lt n))
theorem VV_lt {n ck b : Nat} {P : Nat → Nat} : ∀ k s, VV n P ck b k s → s < 2 ^ n := by
  intro k
  induction k with
  | zero => exact fun s hs => by rw [show s = 0 from hs]; exact Nat.pow_pos (by decide)
  | succ k ih => exact fun t ⟨s, h1, h2⟩ => ckS_lt (ih s h1) h2
theorem GK_stab {S : Nat → Prop} {E : Nat → Nat → Prop} : Stab (GK S E) := by
  intro j hj m
  induction m with
  | zero =>
    intro a ha
    rcases Nat.eq_zero_or_pos j with z | z
    · subst z
      exact hj a ha
    · exact ⟨0, z, ha⟩
  | succ m ih =>
    rintro t ⟨s, h1, h2⟩
    obtain ⟨i, hi, hv⟩ := ih s h1
    have h3 : GK S E (i + 1) t := ⟨s, hv, h2⟩
    by_cases q : i + 1 = j
    · rw [q] at h3
      exact hj t h3
    · exact ⟨i + 1, by omega, h3⟩
/-- what the class reaches the reference reaches -/
theorem Gw_VV {n ck b : Nat} {P : Nat → Nat} (hn : n ≤ 8) : ∀ k s, Gw (hoT n P ck b) 0 (2 * k) s → VV n P ck b k s := by
  intro k
  induction k with
  | zero => exact fun s hs => hs
  | succ k ih =>
    intro t ht
    rw [show 2 * (k + 1) = 2 * k + 1 + 1 by omega] at ht
    obtain ⟨u, ⟨s, hs, hu⟩, htu⟩ := ht
    obtain ⟨i1, i2, -⟩ := Gw_par hn (2 * k) s hs
    have hs6 := i2 (by omega)
    refine ⟨s, ih s hs, ?_⟩
    change u ∈ hoT n P ck b s at hu
    change t ∈ hoT n P ck b u at htu
    unfold hoT at hu
    rw [if_pos hs6, List.mem_flatMap] at hu
    obtain ⟨r, -, hr⟩ := hu
    unfold waT at hr
    split at hr
    · next q =>
      have hrs : r ≤ s := by
        have : s &&& r ≤ s := Nat.and_le_left
        omega
      have hue : u = cod r 1 := by simpa using hr
      have hr6 : r < 256 := by omega
      unfold hoT at htu
      rw [if_neg (by rw [hue]; unfold cod; omega), hue, cod_lo hr6, List.mem_flatMap] at htu
      obtain ⟨m, -, hm⟩ := htu
      unfold atT at hm
      split at hm
      · next q2 =>
        have hte : t = cod (r ||| m) 0 := by simpa using hm
        refine ⟨r, by rw [Nat.and_comm]; exact q, m, by rw [Nat.and_comm]; exact q2.1, q2.2.1, ?_, by rw [hte]; unfold cod; omega⟩
        rw [← pc_disj (ck_dis (by rw [Nat.and_comm]; exact q2.1))]
        exact q2.2.2
      · exact absurd hm List.not_mem_nil
    · exact absurd hr List.not_mem_nil
theorem VV_Gw {n ck b : Nat} {P : Nat → Nat} (hn : n ≤ 8) : ∀ k t, VV n P ck b k t → ∃ j s, j ≤ k ∧ Gw (hoT n P ck b) 0 (2 * j) s ∧ t &&& s = t := by
  intro k
  induction k with
  | zero =>
    intro t ht
    have : t = 0 := ht
    subst this
    exact ⟨0, 0, Nat.le_refl _, rfl, rfl⟩
  | succ k ih =>
    rintro t ⟨s0, h1, l, h2, m, h3, h4, h5, rfl⟩
    obtain ⟨j, s1, hj, h6, h7⟩ := ih s0 h1
    obtain ⟨i1, i2, -⟩ := Gw_par hn (2 * j) s1 h6
    have hs6 := i2 (by omega)
    have hl1 : l &&& s1 = l := by
      rw [← h2, Nat.and_assoc, h7]
    by_cases q : m = 0
    · subst q
      exact ⟨j, s1, by omega, h6, by rw [Nat.or_zero]; exact hl1⟩
    · have hls : l ≤ s1 := by
        have : l &&& s1 ≤ s1 := Nat.and_le_right
        omega
      have hl6 : l < 256 := by omega
      have hml : m ≤ mcN P l n := by
        have : m &&& mcN P l n ≤ mcN P l n := Nat.and_le_right
        omega
      have hmc := lt256 (mcN_lt (P := P) (full := l) n) hn
      refine ⟨j + 1, l ||| m, by omega, ?_, Nat.and_self _⟩
      rw [show 2 * (j + 1) = 2 * j + 1 + 1 by omega]
      refine ⟨cod l 1, ⟨s1, h6, ?_⟩, ?_⟩
      · show cod l 1 ∈ hoT n P ck b s1
        unfold hoT
        rw [if_pos hs6, List.mem_flatMap]
        refine ⟨l, by rw [List.mem_range'_1]; omega, ?_⟩
        unfold waT
        rw [if_pos (by rw [Nat.and_comm]; exact hl1)]
        exact List.mem_singleton.mpr rfl
      · show l ||| m ∈ hoT n P ck b (cod l 1)
        unfold hoT
        rw [if_neg (by unfold cod; omega), cod_lo hl6, List.mem_flatMap]
        refine ⟨m, by rw [List.mem_range'_1]; omega, ?_⟩
        unfold atT
        rw [if_pos ⟨by rw [Nat.and_comm]; exact h3, h4, by rw [pc_disj (ck_dis h3)]; exact h5⟩]
        refine List.mem_singleton.mpr ?_
        unfold cod
        omega
theorem end_up {t s wi : Nat} (h : t &&& s = t) (he : t &&& wi = wi) : s &&& wi = wi := by
  rw [← he, ← Nat.and_assoc, Nat.and_comm s t, h]
theorem VV_found {n ck b wi k t : Nat} {P : Nat → Nat} (hn : n ≤ 8) (hk : k ≤ 65536) (ht : VV n P ck b k t) (he : t &&& wi = wi) (hno : ∀ j s, j < k → VV n P ck b j s → s &&& wi ≠ wi) : HoR n P ck b wi (nI k) := by
  obtain ⟨j, s, hj, h1, h2⟩ := VV_Gw hn k t ht
  have hes := end_up h2 he
  refine Or.inr ⟨k, rfl, hk, ⟨s, ?_, hes⟩, fun i hi u hu => hno i u hi (Gw_VV hn i u hu)⟩
  rcases Nat.lt_or_ge j k with q | q
  · exact absurd hes (hno j s q (Gw_VV hn j s h1))
  · rw [show k = j by omega]
    exact h1
theorem VV_none {n ck b wi : Nat} {P : Nat → Nat} (hn : n ≤ 8) (hno : ∀ j s, VV n P ck b j s → s &&& wi ≠ wi) : HoR n P ck b wi (-1) := Or.inl ⟨rfl, fun k s hs => hno k s (Gw_VV hn k s hs)⟩
/-- first reached with k -/
def VN (n : Nat) (P : Nat → Nat) (ck b k s : Nat) : Prop := VV n P ck b k s ∧ ∀ j, j < k → ¬ VV n P ck b j s
def VS (n : Nat) (P : Nat → Nat) (ck b k s : Nat) : Prop := ∃ j, j ≤ k ∧ VV n P ck b j s
theorem VV_step {n ck b k t : Nat} {P : Nat → Nat} (h : VV n P ck b (k + 1) t) (hn : ¬ VS n P ck b k t) : ∃ s, VN n P ck b k s ∧ ckS n P ck b s t := by
  obtain ⟨s, h1, h2⟩ := h
  refine ⟨s, ⟨h1, fun j hj hv => hn ⟨j + 1, by omega, s, hv, h2⟩⟩, h2⟩
theorem VN_next {n ck b k t : Nat} {P : Nat → Nat} : VN n P ck b (k + 1) t ↔ (∃ s, VN n P ck b k s ∧ ckS n P ck b s t) ∧ ¬ VS n P ck b k t := by
  constructor
  · rintro ⟨h1, h2⟩
    have h3 : ¬ VS n P ck b k t := fun ⟨j, hj, hv⟩ => h2 j (by omega) hv
    exact ⟨VV_step h1 h3, h3⟩
  · rintro ⟨⟨s, h1, h2⟩, h3⟩
    exact ⟨⟨s, h1.1, h2⟩, fun j hj hv => h3 ⟨j, by omega, hv⟩⟩
theorem VS_next {n ck b k t : Nat} {P : Nat → Nat} : VS n P ck b (k + 1) t ↔ VS n P ck b k t ∨ ∃ s, VN n P ck b k s ∧ ckS n P ck b s t := by
  constructor
  · rintro ⟨j, hj, hv⟩
    by_cases q : VS n P ck b k t
    · exact Or.inl q
    · refine Or.inr (VV_step ?_ q)
      have : j = k + 1 := by
        rcases Nat.lt_or_ge k j with z | z
        · omega
        · exact absurd ⟨j, z, hv⟩ q
      rw [← this]
      exact hv
  · rintro (⟨j, hj, hv⟩ | ⟨s, h1, h2⟩)
    · exact ⟨j, by omega, hv⟩
    · exact ⟨k + 1, Nat.le_refl _, s, h1.1, h2⟩
theorem VN_300 {n ck b k s : Nat} {P : Nat → Nat} (hn : n ≤ 8) (h : VN n P ck b k s) : k ≤ 256 := by
  have := lev_cnt (V := VV n P ck b) GK_stab (W := fun a => a = s) (X := List.range 256) h.1 rfl (fun j a hj ha e => h.2 j hj (by rw [← e]; exact ha)) (fun j a hj ha => List.mem_range.mpr (lt256 (VV_lt j a ha) hn))
  rw [List.length_range] at this
  exact this
theorem VN_stop {n ck b k : Nat} {P : Nat → Nat} (h : ∀ s, ¬ VN n P ck b k s) : ∀ m a, VV n P ck b m a → ∃ i, i < k ∧ VV n P ck b i a := by
  refine GK_stab (S := fun s => s = 0) (E := ckS n P ck b) k (fun a ha => ?_)
  refine Classical.byContradiction fun q => h a ⟨ha, fun j hj hv => q ⟨j, hj, hv⟩⟩

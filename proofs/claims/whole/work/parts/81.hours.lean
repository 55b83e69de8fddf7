/-! ===== breadth first, level by level; Small.fewestHours ===== -/
def Gw (nx : Nat → List Nat) (s0 : Nat) : Nat → Nat → Prop := GK (fun s => s = s0) (fun s t => t ∈ nx s)
/-- before the level k: what stands before fr is of the levels before -/
def LB (nx : Nat → List Nat) (s0 k fr : Nat) (qs : List Nat) : Prop := qs.Nodup ∧ fr ≤ qs.length ∧ (∀ s, s ∈ qs.take fr ↔ ∃ j, j < k ∧ Gw nx s0 j s) ∧ (∀ s, s ∈ qs → (∃ j, j < k ∧ Gw nx s0 j s) ∨ Gw nx s0 k s) ∧ (∀ s, Gw nx s0 k s → s ∈ qs) ∧ ∀ i s, fr ≤ i → qs[i]? = some s → Gw nx s0 k s
theorem LB.start {nx : Nat → List Nat} {s0 : Nat} : LB nx s0 0 0 [s0] := by
  refine ⟨by simp, Nat.zero_le _, fun s => ⟨fun h => by simp at h, fun ⟨j, hj, _⟩ => absurd hj (Nat.not_lt_zero _)⟩, fun s hs => Or.inr ?_, fun s hs => ?_, fun i s _ hs => ?_⟩
  · have : s = s0 := by simpa using hs
    exact this
  · rw [show s = s0 from hs]
    exact List.mem_cons_self
  · have := List.mem_of_getElem? hs
    have : s = s0 := by simpa using this
    exact this
/-- in the level k: until un; i is the next -/
def LvS (nx : Nat → List Nat) (s0 k fr un i : Nat) (qs : List Nat) : Prop := qs.Nodup ∧ un ≤ qs.length ∧ fr ≤ i ∧ i ≤ un ∧ (∀ s, s ∈ qs.take un ↔ ∃ j, j < k + 1 ∧ Gw nx s0 j s) ∧ (∀ j s, un ≤ j → qs[j]? = some s → Gw nx s0 (k + 1) s) ∧ (∀ s, s ∈ qs.take i → (∃ j, j < k ∧ Gw nx s0 j s) ∨ ∀ t, t ∈ nx s → t ∈ qs) ∧ (∀ j s, fr ≤ j → j < un → qs[j]? = some s → Gw nx s0 k s) ∧ ∀ s, s ∈ qs.take fr ↔ ∃ j, j < k ∧ Gw nx s0 j s
theorem LB.ls {nx : Nat → List Nat} {s0 k fr : Nat} {qs : List Nat} (c : LB nx s0 k fr qs) : LvS nx s0 k fr qs.length fr qs := by
  obtain ⟨c1, c2, c3, c4, c5, c6⟩ := c
  refine ⟨c1, Nat.le_refl _, Nat.le_refl _, c2, fun s => ?_, fun j s hj hs => ?_, fun s hs => Or.inl ((c3 s).mp hs), fun j s h1 _ hs => c6 j s h1 hs, c3⟩
  · rw [List.take_length]
    constructor
    · intro hs
      rcases c4 s hs with ⟨j, hj, hc⟩ | hc
      · exact ⟨j, by omega, hc⟩
      · exact ⟨k, by omega, hc⟩
    · rintro ⟨j, hj, hc⟩
      rcases Nat.lt_or_ge j k with z | z
      · exact List.mem_of_mem_take ((c3 s).mpr ⟨j, z, hc⟩)
      · have : j = k := by omega
        subst this
        exact c5 s hc
  · rw [List.getElem?_eq_none hj] at hs
    cases hs
theorem LvS.step {nx : Nat → List Nat} {s0 k fr un i x : Nat} {qs : List Nat} (c : LvS nx s0 k fr un i qs) (hi : i < un) (hx : qs[i]? = some x) : LvS nx s0 k fr un (i + 1) ((nx x).foldl adj qs) := by
  obtain ⟨c1, c2, c3, c4, c5, c6, c7, c8, c9⟩ := c
  obtain ⟨nw, h1, h2, h3, h4⟩ := adj_adds (nx x) qs
  have hgx := c8 i x c3 hi hx
  rw [h1]
  refine ⟨h2 c1, by rw [List.length_append]; omega, by omega, by omega, by rw [take_app c2]; exact c5, fun j s hj hs => ?_, fun s hs => ?_, fun j s g1 g2 hs => ?_, by rw [take_app (by omega)]; exact c9⟩
  · rcases Nat.lt_or_ge j qs.length with z | z
    · rw [List.getElem?_append_left z] at hs
      exact c6 j s hj hs
    · rw [List.getElem?_append_right z] at hs
      exact ⟨x, hgx, h3 s (List.mem_of_getElem? hs)⟩
  · rw [take_app (by omega), List.take_add_one, hx] at hs
    rcases List.mem_append.mp hs with z | z
    · rcases c7 s z with w | w
      · exact Or.inl w
      · exact Or.inr fun t ht => List.mem_append_left _ (w t ht)
    · have : s = x := by simpa using z
      rw [this]
      exact Or.inr fun t ht => h4 t ht
  · rw [List.getElem?_append_left (by omega)] at hs
    exact c8 j s g1 g2 hs
theorem LvS.next {nx : Nat → List Nat} {s0 k fr un : Nat} {qs : List Nat} (c : LvS nx s0 k fr un un qs) (hold : ∀ j s t, j < k → Gw nx s0 j s → t ∈ nx s → t ∈ qs) : LB nx s0 (k + 1) un qs ∧ ∀ j s t, j < k + 1 → Gw nx s0 j s → t ∈ nx s → t ∈ qs := by
  obtain ⟨c1, c2, c3, c4, c5, c6, c7, c8, c9⟩ := c
  have hnew : ∀ s t, Gw nx s0 k s → t ∈ nx s → t ∈ qs := fun s t hs ht => by
    rcases c7 s ((c5 s).mpr ⟨k, by omega, hs⟩) with ⟨j, hj, hc⟩ | w
    · exact hold j s t hj hc ht
    · exact w t ht
  refine ⟨⟨c1, c2, c5, fun s hs => ?_, fun s hs => ?_, c6⟩, fun j s t hj hs ht => ?_⟩
  · obtain ⟨j, hj⟩ := List.getElem?_of_mem hs
    rcases Nat.lt_or_ge j un with z | z
    · exact Or.inl ((c5 s).mp (List.mem_of_getElem? (i := j) (by rw [List.getElem?_take_of_lt z]; exact hj)))
    · exact Or.inr (c6 j s z hj)
  · obtain ⟨s', h1, h2⟩ := hs
    exact hnew s' s h1 h2
  · rcases Nat.lt_or_ge j k with z | z
    · exact hold j s t z hs ht
    · have : j = k := by omega
      subst this
      exact hnew s t hs ht
/-- nothing new: nothing more -/
theorem LB.empty {nx : Nat → List Nat} {s0 k fr : Nat} {qs : List Nat} (c : LB nx s0 k fr qs) (h : qs.length ≤ fr) (hold : ∀ j s t, j < k → Gw nx s0 j s → t ∈ nx s → t ∈ qs) : ∀ j s, Gw nx s0 j s → ∃ j', j' < k ∧ Gw nx s0 j' s := by
  obtain ⟨c1, c2, c3, c4, c5, c6⟩ := c
  rw [List.take_of_length_le h] at c3
  intro j
  induction j with
  | zero =>
    intro s hs
    cases k with
    | zero => exact (c3 s).mp (c5 s hs)
    | succ k => exact ⟨0, by omega, hs⟩
  | succ j ih =>
    rintro t ⟨s, h1, h2⟩
    obtain ⟨j', hj', hc⟩ := ih s h1
    exact (c3 t).mp (hold j' s t hj' hc h2)
/-- the states of the hours: below 256 behind an hour, above: washed -/
def hoT (n : Nat) (P : Nat → Nat) (ck b s : Nat) : List Nat := if s < 256 then (List.range' 0 (s + 1)).flatMap (waT s) else (List.range' 1 (mcN P (s % 256) n)).flatMap (atT (s % 256) (mcN P (s % 256) n) ck b)
def Xh (n : Nat) : List Nat := (List.range (2 ^ n)).flatMap (fun t => [cod t 0, cod t 1])
def inH (n s : Nat) : Prop := s % 256 < 2 ^ n ∧ (s / 256 = 0 ∨ s / 256 = 1)
theorem inH.mem {n s : Nat} (h : inH n s) : s ∈ Xh n := by
  refine List.mem_flatMap.mpr ⟨s % 256, List.mem_range.mpr h.1, ?_⟩
  unfold cod
  rcases h.2 with z | z
  · have : s = 256 * 0 + s % 256 := by omega
    rw [← this]
    exact List.mem_cons_self
  · have : s = 256 * 1 + s % 256 := by omega
    rw [← this]
    exact List.mem_cons_of_mem _ List.mem_cons_self
theorem Xh_len (n : Nat) : (Xh n).length = 2 * 2 ^ n := by
  have : (Xh n).length = (List.range (2 ^ n)).length * 2 := flat_len (f := fun t => [cod t 0, cod t 1]) (m := 2) (fun _ => rfl) _
  rw [this, List.length_range]
  omega
theorem hoT_in {n ck b s t : Nat} {P : Nat → Nat} (hn : n ≤ 8) (h : inH n s) (ht : t ∈ hoT n P ck b s) : inH n t ∧ (s < 256 → t / 256 = 1) ∧ (¬ s < 256 → t / 256 = 0) := by
  unfold hoT at ht
  split at ht
  · next q =>
    obtain ⟨x, hx, hm⟩ := List.mem_flatMap.mp ht
    have hs : s % 256 = s := Nat.mod_eq_of_lt q
    have h1 := h.1
    rw [hs] at h1
    rw [List.mem_range'_1] at hx
    unfold waT at hm
    split at hm
    · have e : t = cod x 1 := by simpa using hm
      have hx2 : x < 2 ^ n := by omega
      have hx6 := lt256 hx2 hn
      rw [e]
      refine ⟨⟨by rw [cod_lo hx6]; exact hx2, Or.inr (cod_hi hx6)⟩, fun _ => cod_hi hx6, fun z => absurd q z⟩
    · exact absurd hm List.not_mem_nil
  · next q =>
    obtain ⟨x, hx, hm⟩ := List.mem_flatMap.mp ht
    rw [List.mem_range'_1] at hx
    have hmc := mcN_lt (P := P) (full := s % 256) n
    unfold atT at hm
    split at hm
    · have e : t = cod (s % 256 ||| x) 0 := by simpa using hm
      have hx2 : s % 256 ||| x < 2 ^ n := or_lt2 h.1 (by omega)
      have hx6 := lt256 hx2 hn
      rw [e]
      refine ⟨⟨by rw [cod_lo hx6]; exact hx2, Or.inl (cod_hi hx6)⟩, fun z => absurd z q, fun _ => cod_hi hx6⟩
    · exact absurd hm List.not_mem_nil
theorem Gw_par {n ck b : Nat} {P : Nat → Nat} (hn : n ≤ 8) : ∀ k s, Gw (hoT n P ck b) 0 k s → inH n s ∧ (k % 2 = 0 → s < 256) ∧ (k % 2 = 1 → ¬ s < 256) := by
  intro k
  induction k with
  | zero =>
    intro s hs
    have : s = 0 := hs
    subst this
    exact ⟨⟨Nat.pow_pos (by decide), Or.inl rfl⟩, fun _ => by decide, fun h => by cases h⟩
  | succ k ih =>
    rintro t ⟨s, hs, ht⟩
    obtain ⟨i1, i2, i3⟩ := ih s hs
    obtain ⟨g1, g2, g3⟩ := hoT_in hn i1 ht
    refine ⟨g1, fun h => ?_, fun h => ?_⟩
    · have := g3 (i3 (by omega))
      omega
    · have := g2 (i2 (by omega))
      omega
/-- the answer: the fewest hours -/
def HoR (n : Nat) (P : Nat → Nat) (ck b wi : Nat) (r : Int32) : Prop := (r = -1 ∧ ∀ k s, Gw (hoT n P ck b) 0 (2 * k) s → s &&& wi ≠ wi) ∨ ∃ k, r = nI k ∧ k ≤ 65536 ∧ (∃ s, Gw (hoT n P ck b) 0 (2 * k) s ∧ s &&& wi = wi) ∧ ∀ j, j < k → ∀ s, Gw (hoT n P ck b) 0 (2 * j) s → s &&& wi ≠ wi
theorem HoR.uniq {n : Nat} {P : Nat → Nat} {ck b wi : Nat} {r r' : Int32} (h : HoR n P ck b wi r) (h' : HoR n P ck b wi r') : r = r' := by
  rcases h with ⟨rfl, h⟩ | ⟨k, rfl, -, ⟨s, h1, h2⟩, h3⟩
  · rcases h' with ⟨rfl, -⟩ | ⟨k', -, -, ⟨s', h1', h2'⟩, -⟩
    · rfl
    · exact absurd h2' (h k' s' h1')
  · rcases h' with ⟨-, h'⟩ | ⟨k', rfl, -, ⟨s', h1', h2'⟩, h3'⟩
    · exact absurd h2 (h' k s h1)
    · rcases Nat.lt_trichotomy k k' with q | q | q
      · exact absurd h2 (h3' k q s h1)
      · rw [q]
      · exact absurd h2' (h3 k' q s' h1')
section Hours
variable {h : AH} {B M q l mo kn n b ck wi : Nat} {P : Nat → Nat} {Q : Option Value → AH → Prop}
def SH2 (mo n : Nat) (qs : List Nat) : Prop := qs.Nodup ∧ (∀ s, s ∈ qs → inH n s) ∧ qs.length ≤ mo
theorem SH2.ho {qs : List Nat} {s : Nat} (hX : (Xh n).length ≤ mo) (hn : n ≤ 8) (g : SH2 mo n qs) (hs : s ∈ qs) : (hoT n P ck b s).foldl (vis mo) qs = (hoT n P ck b s).foldl adj qs ∧ SH2 mo n ((hoT n P ck b s).foldl adj qs) := by
  obtain ⟨g1, g2, g3⟩ := g
  have hin : ∀ c, c ∈ hoT n P ck b s → inH n c := fun c hc => (hoT_in hn (g2 s hs) hc).1
  have e : (hoT n P ck b s).foldl (vis mo) qs = (hoT n P ck b s).foldl adj qs := vis_adj hX _ qs g1 (fun c hc => (g2 c hc).mem) (fun c hc => (hin c hc).mem)
  obtain ⟨nw, h1, h2, h3, h4⟩ := adj_adds (hoT n P ck b s) qs
  refine ⟨e, by rw [h1]; exact h2 g1, fun c hc => ?_, ?_⟩
  · rw [h1] at hc
    rcases List.mem_append.mp hc with z | z
    · exact g2 c z
    · exact hin c (h3 c z)
  · rw [← e]
    exact vfold_len _ _ g3
theorem hours_l (x : VX h q l mo) (hmo : mo ≤ 65536) (hX : (Xh n).length ≤ mo) (hp : NetP h kn n P) (po : PartsOK n P) (hn8 : n ≤ 8) (hkn : kn + 10 < 27) (hb : b < 65536) (hck : ck < 65536) (hwi : wi < 2 ^ n) (h2 : hI h kn 2 = nI wi)
    (k : ∀ r qu mk m, HoR n P ck b wi r → Q (some (.int r)) (VHp h q l qu mk m)) :
    ∀ d c fr qs qu mk y6 y7, mo - fr ≤ d → LB (hoT n P ck b) 0 (2 * c) fr qs → (∀ j s t, j < 2 * c → Gw (hoT n P ck b) 0 j s → t ∈ hoT n P ck b s → t ∈ qs) → (∀ j, j < c + 1 → ∀ s, Gw (hoT n P ck b) 0 (2 * j) s → s &&& wi ≠ wi) → c ≤ fr → SH2 mo n qs → VR qu mk qs → WP 87 22 [.ref 64, .ref kn, .int (nI ck), .int (nI b), .int (nI fr), .int (nI (c + 1)), y6, y7] [] (VHp h q l qu mk qs.length) Q := by
  obtain ⟨⟨t1, t2, t3, t4, t5, t6⟩, ⟨l1, l2, l3, l4⟩, ⟨n1, n2, n3⟩, x1⟩ := id x
  have hr := VHp_r (h := h) n1 n2 n3
  have ekn : ∀ qu mk m, hI (VHp h q l qu mk m) kn = hI h kn := fun qu mk m => x.nn (by omega) qu mk m
  have hF := hp.1
  have hwi6 := lt256 hwi hn8
  -- looking for an END among the new ones
  have lpC : ∀ c fr qs qu mk (u6 : Int32), c + 1 ≤ 65536 → LB (hoT n P ck b) 0 (2 * (c + 1)) fr qs → (∀ j, j < c + 1 → ∀ s, Gw (hoT n P ck b) 0 (2 * j) s → s &&& wi ≠ wi) → SH2 mo n qs → VR qu mk qs → ((∀ j, j < c + 2 → ∀ s, Gw (hoT n P ck b) 0 (2 * j) s → s &&& wi ≠ wi) → ∀ y7, WP 87 22 [.ref 64, .ref kn, .int (nI ck), .int (nI b), .int (nI fr), .int (nI (c + 2)), .int u6, y7] [] (VHp h q l qu mk qs.length) Q) →
      ∀ d i, qs.length - i = d → fr ≤ i → i ≤ qs.length → (∀ j s, fr ≤ j → j < i → qs[j]? = some s → s &&& wi ≠ wi) → WP 87 119 [.ref 64, .ref kn, .int (nI ck), .int (nI b), .int (nI fr), .int (nI (c + 1)), .int u6, .int (nI i)] [] (VHp h q l qu mk qs.length) Q := by
    intro c fr qs qu mk u6 hc9 lb hne sq vr hnext d
    have hqm := sq.2.2
    induction d with
    | zero =>
      intro i hd hfi hi hno
      have hle : nI qs.length ≤ nI i := nI_le (by omega) (by omega)
      rw [w87_119]
      simp only [w87_b, hr, t1, hle, true_implies, not_true_eq_false, false_implies, and_true, nI_1]
      refine hnext (fun j hj s hs => ?_) _
      rcases Nat.lt_or_ge j (c + 1) with z | z
      · exact hne j z s hs
      · have : j = c + 1 := by omega
        subst this
        have hm := lb.2.2.2.2.1 s hs
        obtain ⟨i', hi'⟩ := List.getElem?_of_mem hm
        rcases Nat.lt_or_ge i' fr with w | w
        · obtain ⟨j', hj', hg⟩ := (lb.2.2.1 s).mp (List.mem_of_getElem? (i := i') (by rw [List.getElem?_take_of_lt w]; exact hi'))
          have p1 := Gw_par hn8 _ s hs
          have p2 := Gw_par hn8 _ s hg
          have hev : j' % 2 = 0 := by
            rcases Nat.mod_two_eq_zero_or_one j' with v | v
            · exact v
            · exact absurd (p1.2.1 (by omega)) (p2.2.2 v)
          have e : j' = 2 * (j' / 2) := by omega
          rw [e] at hg
          exact hne (j' / 2) (by omega) s hg
        · obtain ⟨hl, -⟩ := List.getElem?_eq_some_iff.mp hi'
          exact hno i' s w (by omega) hi'
    | succ d ih =>
      intro i hd hfi hi hno
      have hle : ¬ nI qs.length ≤ nI i := nI_ge (by omega) (by omega)
      obtain ⟨s, hs⟩ : ∃ s, qs[i]? = some s := ⟨_, List.getElem?_eq_getElem (by omega)⟩
      have hgs := lb.2.2.2.2.2 i s hfi hs
      have hs6 := (Gw_par hn8 _ s hgs).2.1 (by omega)
      have hqu := vr.1 i s hs
      have ci : (nI i).toNatClampNeg = i := nI_clamp (by omega)
      have ii : inb (nI i) (hL h q) = true := inb_nI (by omega) (by omega)
      have hab : s &&& wi < 2 ^ 31 := Nat.lt_of_le_of_lt Nat.and_le_left (by omega)
      rw [w87_119]
      by_cases q3 : s &&& wi = wi
      · have q3' : nI s &&& nI wi = nI wi := by rw [nI_and, q3]
        simp only [w87_b, hle, hr, ekn, t1, t2, t4, ci, ii, hqu, hF, h2, s141, q3', if_true, i32_10, Option.toList_some, List.cons_append, List.nil_append, true_or, or_true, true_implies, not_true_eq_false, not_false_eq_true, false_implies, and_true, true_and]
        exact k _ _ _ _ (Or.inr ⟨c + 1, rfl, by have := lb.2.1; omega, ⟨s, hgs, q3⟩, hne⟩)
      · have q3' : ¬ nI s &&& nI wi = nI wi := fun z => by rw [nI_and] at z; exact q3 (nI_inj hab (by omega) z)
        simp only [w87_b, hle, hr, ekn, t1, t2, t4, ci, ii, hqu, hF, h2, s141, q3', if_false, Option.toList_some, List.cons_append, List.nil_append, true_or, or_true, true_implies, not_true_eq_false, not_false_eq_true, false_implies, and_true, true_and, nI_1]
        refine ih (i + 1) (by omega) (by omega) (by omega) fun j s' g1 g2 hs' => ?_
        rcases Nat.lt_or_ge j i with w | w
        · exact hno j s' g1 w hs'
        · have : j = i := by omega
          subst this
          rw [hs] at hs'
          cases hs'
          exact q3
  have none : ∀ c fr qs qu mk, LB (hoT n P ck b) 0 (2 * c) fr qs → (∀ j s t, j < 2 * c → Gw (hoT n P ck b) 0 j s → t ∈ hoT n P ck b s → t ∈ qs) → (∀ j, j < c + 1 → ∀ s, Gw (hoT n P ck b) 0 (2 * j) s → s &&& wi ≠ wi) → qs.length ≤ fr → Q (some (.int (-1))) (VHp h q l qu mk qs.length) := fun c fr qs qu mk lb hold hne hlen => by
    refine k _ _ _ _ (Or.inl ⟨rfl, fun k' s hs => ?_⟩)
    obtain ⟨j', hj', hg⟩ := lb.empty hlen hold _ s hs
    have p1 := Gw_par hn8 _ s hs
    have p2 := Gw_par hn8 _ s hg
    have hev : j' % 2 = 0 := by
      rcases Nat.mod_two_eq_zero_or_one j' with v | v
      · exact v
      · exact absurd (p1.2.1 (by omega)) (p2.2.2 v)
    have e : j' = 2 * (j' / 2) := by omega
    rw [e] at hg
    exact hne (j' / 2) (by omega) s hg
  -- making
  have lpB : ∀ c fr un, c + 1 ≤ 65536 → fr ≤ mo → un ≤ mo → (∀ j, j < c + 1 → ∀ s, Gw (hoT n P ck b) 0 (2 * j) s → s &&& wi ≠ wi) → (∀ qs qu mk y6 y7, LB (hoT n P ck b) 0 (2 * (c + 1)) un qs → (∀ j s t, j < 2 * (c + 1) → Gw (hoT n P ck b) 0 j s → t ∈ hoT n P ck b s → t ∈ qs) → (∀ j, j < c + 2 → ∀ s, Gw (hoT n P ck b) 0 (2 * j) s → s &&& wi ≠ wi) → SH2 mo n qs → VR qu mk qs → WP 87 22 [.ref 64, .ref kn, .int (nI ck), .int (nI b), .int (nI un), .int (nI (c + 2)), y6, y7] [] (VHp h q l qu mk qs.length) Q) →
      ∀ d i qs qu mk, un - i = d → LvS (hoT n P ck b) 0 (2 * c + 1) fr un i qs → (∀ j s t, j < 2 * c + 1 → Gw (hoT n P ck b) 0 j s → t ∈ hoT n P ck b s → t ∈ qs) → SH2 mo n qs → VR qu mk qs → WP 87 84 [.ref 64, .ref kn, .int (nI ck), .int (nI b), .int (nI un), .int (nI (c + 1)), .int (nI fr), .int (nI i)] [] (VHp h q l qu mk qs.length) Q := by
    intro c fr un hc9 hfr hun hne hnext d
    induction d with
    | zero =>
      intro i qs qu mk hd ls hold sq vr
      have hqm := sq.2.2
      have hiu : i = un := by have := ls.2.2.2.1; omega
      subst hiu
      have hle : nI i ≤ nI i := Int32.le_refl _
      obtain ⟨lb, hold'⟩ := ls.next hold
      rw [w87_84]
      simp only [w87_b, hle, true_implies, not_true_eq_false, false_implies, and_true]
      exact lpC c i qs qu mk (nI fr) hc9 lb hne sq vr (fun hne' y7 => hnext qs qu mk _ y7 lb hold' hne' sq vr) (qs.length - i) i rfl (Nat.le_refl _) ls.2.1 (fun j s g1 g2 => by omega)
    | succ d ih =>
      intro i qs qu mk hd ls hold sq vr
      have hqm := sq.2.2
      have hiu : i < un := by omega
      have hul := ls.2.1
      have hle : ¬ nI un ≤ nI i := nI_ge hiu (by omega)
      obtain ⟨s, hs⟩ : ∃ s, qs[i]? = some s := ⟨_, List.getElem?_eq_getElem (by omega)⟩
      have hsm := List.mem_of_getElem? hs
      have hgs := ls.2.2.2.2.2.2.2.1 i s ls.2.2.1 hiu hs
      have hs6 := (Gw_par hn8 _ s hgs).2.2 (by omega)
      have hsi := sq.2.1 s hsm
      have hqu := vr.1 i s hs
      have ci : (nI i).toNatClampNeg = i := nI_clamp (by omega)
      have ii : inb (nI i) (hL h q) = true := inb_nI (by omega) (by omega)
      have eT : hoT n P ck b s = (List.range' 1 (mcN P (s % 256) n)).flatMap (atT (s % 256) (mcN P (s % 256) n) ck b) := by unfold hoT; rw [if_neg hs6]
      obtain ⟨e1, sq'⟩ := sq.ho (P := P) (ck := ck) (b := b) hX hn8 hsm
      rw [w87_84]
      simp only [w87_b, hle, hr, t1, t2, t4, ci, ii, hqu, and255, true_or, or_true, true_implies, not_true_eq_false, not_false_eq_true, false_implies, and_true, true_and]
      refine s89 x (by omega) hp po hn8 hkn hsi.1 hck hb sq.2.2 vr fun qu' mk' g => ?_
      rw [vf_eq, ← eT, e1] at g ⊢
      simp only [w87_b, Option.toList_none, List.nil_append, nI_1]
      refine ih (i + 1) _ qu' mk' (by omega) (ls.step hiu hs) (fun j s' t hj hg ht => ?_) sq' g
      obtain ⟨nw, z1, -⟩ := adj_adds (hoT n P ck b s) qs
      rw [z1]
      exact List.mem_append_left _ (hold j s' t hj hg ht)
  -- washing
  have lpA : ∀ c fr un, c + 1 ≤ 65536 → fr ≤ mo → un ≤ mo → (∀ j, j < c + 1 → ∀ s, Gw (hoT n P ck b) 0 (2 * j) s → s &&& wi ≠ wi) → (∀ un2 qs qu mk y6 y7, un ≤ un2 → un2 ≤ mo → LB (hoT n P ck b) 0 (2 * (c + 1)) un2 qs → (∀ j s t, j < 2 * (c + 1) → Gw (hoT n P ck b) 0 j s → t ∈ hoT n P ck b s → t ∈ qs) → (∀ j, j < c + 2 → ∀ s, Gw (hoT n P ck b) 0 (2 * j) s → s &&& wi ≠ wi) → SH2 mo n qs → VR qu mk qs → WP 87 22 [.ref 64, .ref kn, .int (nI ck), .int (nI b), .int (nI un2), .int (nI (c + 2)), y6, y7] [] (VHp h q l qu mk qs.length) Q) →
      ∀ d i qs qu mk, un - i = d → LvS (hoT n P ck b) 0 (2 * c) fr un i qs → (∀ j s t, j < 2 * c → Gw (hoT n P ck b) 0 j s → t ∈ hoT n P ck b s → t ∈ qs) → SH2 mo n qs → VR qu mk qs → WP 87 50 [.ref 64, .ref kn, .int (nI ck), .int (nI b), .int (nI fr), .int (nI (c + 1)), .int (nI un), .int (nI i)] [] (VHp h q l qu mk qs.length) Q := by
    intro c fr un hc9 hfr hun hne hnext d
    induction d with
    | zero =>
      intro i qs qu mk hd ls hold sq vr
      have hqm := sq.2.2
      have hul := ls.2.1
      have hiu : i = un := by have := ls.2.2.2.1; omega
      subst hiu
      have hle : nI i ≤ nI i := Int32.le_refl _
      obtain ⟨lb, hold'⟩ := ls.next hold
      rw [w87_50]
      simp only [w87_a, w87_b, hr, t1, hle, true_implies, not_true_eq_false, false_implies, and_true]
      exact lpB c i qs.length hc9 (by omega) hqm hne (fun qs' qu' mk' y6 y7 g1 g2 g3 g4 g5 => hnext qs.length qs' qu' mk' y6 y7 hul hqm g1 g2 g3 g4 g5) (qs.length - i) i qs qu mk rfl lb.ls hold' sq vr
    | succ d ih =>
      intro i qs qu mk hd ls hold sq vr
      have hqm := sq.2.2
      have hiu : i < un := by omega
      have hul := ls.2.1
      have hle : ¬ nI un ≤ nI i := nI_ge hiu (by omega)
      obtain ⟨s, hs⟩ : ∃ s, qs[i]? = some s := ⟨_, List.getElem?_eq_getElem (by omega)⟩
      have hsm := List.mem_of_getElem? hs
      have hgs := ls.2.2.2.2.2.2.2.1 i s ls.2.2.1 hiu hs
      have hs6 := (Gw_par hn8 _ s hgs).2.1 (by omega)
      have hqu := vr.1 i s hs
      have ci : (nI i).toNatClampNeg = i := nI_clamp (by omega)
      have ii : inb (nI i) (hL h q) = true := inb_nI (by omega) (by omega)
      have eT : hoT n P ck b s = (List.range' 0 (s + 1)).flatMap (waT s) := by unfold hoT; rw [if_pos hs6]
      obtain ⟨e1, sq'⟩ := sq.ho (P := P) (ck := ck) (b := b) hX hn8 hsm
      rw [w87_50]
      simp only [w87_a, w87_b, hle, hr, t1, t2, t4, ci, ii, hqu, true_or, or_true, true_implies, not_true_eq_false, not_false_eq_true, false_implies, and_true, true_and]
      refine s88 x (by omega) hs6 sq.2.2 vr fun qu' mk' g => ?_
      rw [vf_eq, ← eT, e1] at g ⊢
      simp only [w87_a, w87_b, Option.toList_none, List.nil_append, nI_1]
      refine ih (i + 1) _ qu' mk' (by omega) (ls.step hiu hs) (fun j s' t hj hg ht => ?_) sq' g
      obtain ⟨nw, z1, -⟩ := adj_adds (hoT n P ck b s) qs
      rw [z1]
      exact List.mem_append_left _ (hold j s' t hj hg ht)
  intro d
  induction d with
  | zero =>
    intro c fr qs qu mk y6 y7 hd lb hold hne hcf sq vr
    have hqm := sq.2.2
    have hfl := lb.2.1
    have hle2 : nI qs.length ≤ nI fr := nI_le (by omega) (by omega)
    have hN := none c fr qs qu mk lb hold hne (by omega)
    rw [w87_22]
    by_cases z : mo < c + 1
    · have hle : nI mo < nI (c + 1) := nI_lt z (by omega)
      simp only [w87_a, w87_b, hr, t1, t6, hle, true_or, or_true, true_implies, not_true_eq_false, not_false_eq_true, false_implies, and_true, true_and]
      exact hN
    · have hle : ¬ nI mo < nI (c + 1) := nI_nlt (by omega) (by omega)
      simp only [w87_a, w87_b, hr, t1, t6, hle, hle2, true_or, or_true, true_implies, not_true_eq_false, not_false_eq_true, false_implies, and_true, true_and]
      exact hN
  | succ d ih =>
    intro c fr qs qu mk y6 y7 hd lb hold hne hcf sq vr
    have hqm := sq.2.2
    have hfl := lb.2.1
    rw [w87_22]
    by_cases z : mo < c + 1
    · have hle : nI mo < nI (c + 1) := nI_lt z (by omega)
      simp only [w87_a, w87_b, hr, t1, t6, hle, true_or, or_true, true_implies, not_true_eq_false, not_false_eq_true, false_implies, and_true, true_and]
      exact none c fr qs qu mk lb hold hne (by omega)
    · have hle : ¬ nI mo < nI (c + 1) := nI_nlt (by omega) (by omega)
      by_cases z2 : qs.length ≤ fr
      · have hle2 : nI qs.length ≤ nI fr := nI_le z2 (by omega)
        simp only [w87_a, w87_b, hr, t1, t6, hle, hle2, true_or, or_true, true_implies, not_true_eq_false, not_false_eq_true, false_implies, and_true, true_and]
        exact none c fr qs qu mk lb hold hne z2
      · have hle2 : ¬ nI qs.length ≤ nI fr := nI_ge (by omega) (by omega)
        simp only [w87_a, hr, t1, t6, hle, hle2, true_or, or_true, true_implies, not_true_eq_false, not_false_eq_true, false_implies, and_true, true_and]
        exact lpA c fr qs.length (by omega) (by omega) hqm hne (fun un2 qs' qu' mk' y6 y7 g1 g2 g3 g4 g5 g6 g7 => ih (c + 1) un2 qs' qu' mk' y6 y7 (by omega) g3 g4 g5 (by omega) g6 g7) (qs.length - fr) fr qs qu mk rfl lb.ls hold sq vr
theorem s87 (cw : CW B M h) (hkn : kn = 4 ∨ kn = 15) (hp : NetP h kn n P) (po : PartsOK n P) (hn8 : n ≤ 8) (hb : b < 65536) (hck : ck < 65536) (hw0 : 0 < wi) (hwi : wi < 2 ^ n) (h2 : hI h kn 2 = nI wi)
    (k : ∀ h' r, HoR n P ck b wi r → CW B M h' → CFr (fun a => a = 64) (fun _ => False) h h' → Q (some (.int r)) h') : WPM 87 [.ref 64, .ref kn, .int (nI ck), .int (nI b)] h Q := by
  have a1 : hT h 64 = 10 := by simp only [cw.1]
  have hF := hp.1
  have hpw : (1 : Int32) <<< (nI n &&& 31) = nI (2 ^ n) := nI_pow n (by omega)
  have e2 : (2 : Int32) * nI (2 ^ n) = nI (2 * 2 ^ n) := pk_mul 2 _
  have e3 : 2 * 2 ^ n = 2 ^ (n + 1) := by rw [Nat.pow_succ]; omega
  have hm : 2 * 2 ^ n ∈ sizes := by rw [e3]; exact pow_sizes (by omega)
  have hmo : 2 * 2 ^ n ≤ 65536 := by rw [e3]; exact p2_le (n := 16) (by omega)
  have hpos : 0 < 2 ^ n := Nat.pow_pos (by decide)
  rw [we87]
  simp only [w87_a, a1, hF, s25 hp.1, hp.2.1, hpw, e2, Option.toList_some, List.cons_append, List.nil_append]
  refine s82 cw hm fun h1 qu mk cw1 cf1 x vr => ?_
  have hp1 : NetP h1 kn n P := hp.cfr cf1 cw cw1 hkn (by omega) (by omega)
  have eI : hI h1 kn = hI h kn := cf1.keep cw (by omega) (by omega) (by omega)
  have hr := VHp_r (h := h1) x.2.2.1.1 x.2.2.1.2.1 x.2.2.1.2.2
  simp only [w87_a, hr, x.1.1, Option.toList_none, List.nil_append]
  have hv : vis (2 * 2 ^ n) [] (256 * 0 + 0) = [0] := by
    unfold vis
    rw [if_neg]
    · rfl
    · rintro (z | z)
      · exact absurd z List.not_mem_nil
      · rw [List.length_nil] at z
        omega
  refine s83 (a := 0) (b := 0) (qs := []) x (by omega) (by decide) (by decide) (Nat.zero_le _) vr fun qu' mk' g => ?_
  rw [hv] at g ⊢
  simp only [w87_a, Option.toList_none, List.nil_append]
  refine hours_l (ck := ck) x hmo (Nat.le_of_eq (Xh_len n)) hp1 po hn8 (by omega) hb hck hwi (by rw [eI]; exact h2) (fun r qu2 mk2 m2 cr => ?_) _ 0 0 [0] qu' mk' _ _ (Nat.le_refl _) LB.start (fun j s t hj => absurd hj (Nat.not_lt_zero _)) (fun j hj s hs => ?_) (Nat.le_refl _) ⟨by simp, fun s hs => ?_, by rw [List.length_singleton]; omega⟩ g
  · exact k _ r cr (cw1.ofI VHp_only) (cf1.trans' (CFr.ofIJ (J' := fun _ => False) (OnlyI.ij VHp_only) (fun a z => by rcases z with z | z | z; exact Or.inr (Or.inl z); exact Or.inr (Or.inr (Or.inl z)); exact Or.inl z) (fun a z => z.elim)))
  · have : j = 0 := by omega
    subst this
    have : s = 0 := hs
    subst this
    rw [Nat.zero_and]
    omega
  · have : s = 0 := by simpa using hs
    rw [this]
    exact ⟨hpos, Or.inl rfl⟩
end Hours

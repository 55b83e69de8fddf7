/-! ===== Small.leastWithPromises ===== -/
def prL (n : Nat) (P : Nat → Nat) (b s : Nat) : List Nat := (List.range' 0 n).flatMap (prT P (s % 256) (s / 256) b)
def PRc (n : Nat) (P : Nat → Nat) (b : Nat) : Nat → Prop := clo (prL n P b) (fun s => s = 0)
def inP (n s : Nat) : Prop := s % 256 < 2 ^ n ∧ s / 256 < 2 ^ n ∧ s % 256 &&& s / 256 = 0
def pcC (s : Nat) : Nat := pc (s % 256 ||| s / 256)
theorem pcn_split (s : Nat) : ∀ k, pcn (8 + k) s = pcn 8 s + pcn k (s / 256)
  | 0 => rfl
  | k + 1 => by
    show pcn (8 + k) s + (if s.testBit (8 + k) = true then 1 else 0) = pcn 8 s + (pcn k (s / 256) + if (s / 256).testBit k = true then 1 else 0)
    rw [pcn_split s k]
    have : (s / 256).testBit k = s.testBit (8 + k) := by
      rw [show (256 : Nat) = 2 ^ 8 from rfl, Nat.testBit_div_two_pow, Nat.add_comm]
    rw [this]
    omega
theorem pcn_disj {a c : Nat} (h : a &&& c = 0) : ∀ i, pcn i (a ||| c) = pcn i a + pcn i c
  | 0 => rfl
  | i + 1 => by
    show pcn i (a ||| c) + (if (a ||| c).testBit i = true then 1 else 0) = pcn i a + (if a.testBit i = true then 1 else 0) + (pcn i c + if c.testBit i = true then 1 else 0)
    rw [pcn_disj h i, Nat.testBit_or]
    have hb : (a.testBit i && c.testBit i) = false := by rw [← Nat.testBit_and, h, Nat.zero_testBit]
    cases ha : a.testBit i <;> cases hc : c.testBit i
    · simp
    · simp; omega
    · simp; omega
    · rw [ha, hc] at hb; cases hb
theorem pc_code {n s : Nat} (hn : n ≤ 8) (h : inP n s) : pc s = pcC s := by
  obtain ⟨h1, h2, h3⟩ := h
  have e1 : pc s = pcn 8 s + pcn 8 (s / 256) := pcn_split s 8
  have e2 : pcn 8 s = pcn 8 (s % 256) := pcn_congr 8 fun j hj => by
    rw [show s % 256 = s % 2 ^ 8 from rfl, Nat.testBit_mod_two_pow]
    simp [hj]
  have e3 : pc (s % 256 ||| s / 256) = pcn 8 (s % 256 ||| s / 256) := pcn_big 16 8 _ (or_lt2 (lt256 h1 hn) (lt256 h2 hn)) (by decide)
  rw [e1, e2]
  unfold pcC
  rw [e3, pcn_disj h3 8]
/-- disjoint pairs -/
def TR : Nat → List Nat
  | 0 => [0]
  | n + 1 => TR n ++ (TR n).map (· + 2 ^ n) ++ (TR n).map (· + 256 * 2 ^ n)
theorem TR_len : ∀ n, (TR n).length = 3 ^ n
  | 0 => rfl
  | n + 1 => by
    show (TR n ++ (TR n).map (· + 2 ^ n) ++ (TR n).map (· + 256 * 2 ^ n)).length = _
    rw [List.length_append, List.length_append, List.length_map, List.length_map, TR_len n, Nat.pow_succ]
    omega
theorem TR_mem : ∀ n f o, f < 2 ^ n → o < 2 ^ n → f &&& o = 0 → cod f o ∈ TR n := by
  intro n
  induction n with
  | zero =>
    intro f o hf ho _
    have : f = 0 := by omega
    subst this
    have : o = 0 := by omega
    subst this
    exact List.mem_cons_self
  | succ n ih =>
    intro f o hf ho hd
    have hp : 0 < 2 ^ n := Nat.pow_pos (by decide)
    have h2 : 2 ^ (n + 1) = 2 ^ n + 2 ^ n := by rw [Nat.pow_succ]; omega
    have hm := ih (f % 2 ^ n) (o % 2 ^ n) (Nat.mod_lt _ hp) (Nat.mod_lt _ hp) (by
      apply Nat.eq_of_testBit_eq
      intro j
      rw [Nat.testBit_and, Nat.testBit_mod_two_pow, Nat.testBit_mod_two_pow, Nat.zero_testBit]
      have hb : (f.testBit j && o.testBit j) = false := by rw [← Nat.testBit_and, hd, Nat.zero_testBit]
      revert hb
      cases f.testBit j <;> cases o.testBit j <;> simp)
    have hmod : ∀ x, x < 2 ^ (n + 1) → (x < 2 ^ n ∧ x % 2 ^ n = x) ∨ (x.testBit n = true ∧ x = x % 2 ^ n + 2 ^ n) := fun x hx => by
      rcases Nat.lt_or_ge x (2 ^ n) with z | z
      · exact Or.inl ⟨z, Nat.mod_eq_of_lt z⟩
      · have e : x % 2 ^ n = x - 2 ^ n := by rw [Nat.mod_eq_sub_mod z, Nat.mod_eq_of_lt (by omega)]
        refine Or.inr ⟨?_, by omega⟩
        rw [Nat.testBit_eq_decide_div_mod_eq]
        have : x / 2 ^ n = 1 := by
          rw [Nat.div_eq_iff hp]
          omega
        rw [this]
        rfl
    show cod f o ∈ TR n ++ (TR n).map (· + 2 ^ n) ++ (TR n).map (· + 256 * 2 ^ n)
    rcases hmod f hf with ⟨f1, f2⟩ | ⟨f1, f2⟩
    · rcases hmod o ho with ⟨o1, o2⟩ | ⟨o1, o2⟩
      · rw [f2, o2] at hm
        exact List.mem_append_left _ (List.mem_append_left _ hm)
      · refine List.mem_append_right _ (List.mem_map.mpr ⟨_, hm, ?_⟩)
        unfold cod
        rw [f2]
        omega
    · rcases hmod o ho with ⟨o1, o2⟩ | ⟨o1, o2⟩
      · refine List.mem_append_left _ (List.mem_append_right _ (List.mem_map.mpr ⟨_, hm, ?_⟩))
        unfold cod
        rw [o2]
        omega
      · exfalso
        have hb : (f.testBit n && o.testBit n) = false := by rw [← Nat.testBit_and, hd, Nat.zero_testBit]
        rw [f1, o1] at hb
        cases hb
theorem inP.mem {n s : Nat} (h : inP n s) : s ∈ TR n := by
  have := TR_mem n (s % 256) (s / 256) h.1 h.2.1 h.2.2
  have e : cod (s % 256) (s / 256) = s := by unfold cod; omega
  rw [e] at this
  exact this
theorem prL_in {n b s t : Nat} {P : Nat → Nat} (hn : n ≤ 8) (h : inP n s) (hb : pcC s ≤ b) (ht : t ∈ prL n P b s) : inP n t ∧ pcC t ≤ b := by
  obtain ⟨h1, h2, h3⟩ := h
  obtain ⟨x, hx, hm⟩ := List.mem_flatMap.mp ht
  have hxn := mem_r0.mp hx
  have hbit : ∀ j, ((s % 256).testBit j && (s / 256).testBit j) = false := fun j => by rw [← Nat.testBit_and, h3, Nat.zero_testBit]
  have mk : ∀ f o, f < 2 ^ n → o < 2 ^ n → (∀ j, (f.testBit j && o.testBit j) = false) → pc (f ||| o) ≤ b → inP n (cod f o) ∧ pcC (cod f o) ≤ b := fun f o g1 g2 g3 g4 => by
    have l1 := lt256 g1 hn
    unfold inP pcC
    rw [cod_lo l1, cod_hi l1]
    exact ⟨⟨g1, g2, Nat.eq_of_testBit_eq (fun j => by rw [Nat.testBit_and, g3 j, Nat.zero_testBit])⟩, g4⟩
  unfold pcC at hb
  have h2x := p2_lt hxn
  unfold prT at hm
  split at hm
  · have e : t = cod (sdf (s % 256) (2 ^ x)) (s / 256) := by simpa using hm
    rw [e]
    refine mk _ _ (sdf_lt h1) h2 (fun j => ?_) (Nat.le_trans (sub_pc (fun j hj => ?_)) hb)
    · rw [sdf_bit]
      have := hbit j
      revert this
      cases (s % 256).testBit j <;> cases (s / 256).testBit j <;> simp
    · rw [Nat.testBit_or, sdf_bit] at hj
      rw [Nat.testBit_or]
      revert hj
      cases (s % 256).testBit j <;> cases (s / 256).testBit j <;> simp
  · next q1 =>
    split at hm
    · next q2 =>
      split at hm
      · have e : t = cod (s % 256 ||| 2 ^ x) (sdf (s / 256) (2 ^ x)) := by simpa using hm
        rw [e]
        refine mk _ _ (or_lt2 h1 h2x) (sdf_lt h2) (fun j => ?_) (Nat.le_trans (sub_pc (fun j hj => ?_)) hb)
        · rw [bit_or_pow, bit_sdf_pow]
          have := hbit j
          revert this
          cases (s % 256).testBit j <;> cases (s / 256).testBit j <;> cases (decide (x = j)) <;> simp
        · rw [Nat.testBit_or, bit_or_pow, bit_sdf_pow] at hj
          rw [Nat.testBit_or]
          by_cases z : x = j
          · subst z
            rw [q2]
            simp
          · revert hj
            simp [z]
      · exact absurd hm List.not_mem_nil
    · next q2 =>
      have q1' : (s % 256).testBit x = false := Bool.eq_false_iff.mpr q1
      have q2' : (s / 256).testBit x = false := Bool.eq_false_iff.mpr q2
      have hfree : (s % 256 ||| s / 256).testBit x = false := by rw [Nat.testBit_or, q1', q2']; rfl
      split at hm
      · next q3 =>
        have hset := pc_set hfree (show x < 16 by omega)
        have A : inP n (cod (s % 256) (s / 256 ||| 2 ^ x)) ∧ pcC (cod (s % 256) (s / 256 ||| 2 ^ x)) ≤ b := by
          refine mk _ _ h1 (or_lt2 h2 h2x) (fun j => ?_) ?_
          · rw [bit_or_pow]
            have := hbit j
            by_cases z : x = j
            · subst z
              rw [q1']
              rfl
            · revert this
              simp [z]
          · rw [← Nat.or_assoc]
            omega
        have C : inP n (cod (s % 256 ||| 2 ^ x) (s / 256)) ∧ pcC (cod (s % 256 ||| 2 ^ x) (s / 256)) ≤ b := by
          refine mk _ _ (or_lt2 h1 h2x) h2 (fun j => ?_) ?_
          · rw [bit_or_pow]
            have := hbit j
            by_cases z : x = j
            · subst z
              rw [q2', Bool.and_false]
            · revert this
              simp [z]
          · have e : s % 256 ||| 2 ^ x ||| s / 256 = s % 256 ||| s / 256 ||| 2 ^ x := by
              rw [Nat.or_assoc, Nat.or_comm (2 ^ x), ← Nat.or_assoc]
            rw [e]
            omega
        split at hm
        · rcases List.mem_cons.mp hm with z | z
          · rw [z]; exact A
          · have : t = cod (s % 256 ||| 2 ^ x) (s / 256) := by simpa using z
            rw [this]; exact C
        · have : t = cod (s % 256) (s / 256 ||| 2 ^ x) := by simpa using hm
          rw [this]; exact A
      · exact absurd hm List.not_mem_nil
theorem prL_same {n b b' s : Nat} {P : Nat → Nat} (h1 : pcC s < b) (h2 : pcC s < b') : prL n P b s = prL n P b' s := by
  unfold prL
  congr 1
  funext x
  unfold pcC at h1 h2
  unfold prT
  rw [if_pos h1, if_pos h2]
theorem PRc.in {n b : Nat} {P : Nat → Nat} (hn : n ≤ 8) : ∀ s, PRc n P b s → inP n s ∧ pcC s ≤ b := by
  refine clo.in (fun s => inP n s ∧ pcC s ≤ b) (fun t ht => ?_) fun s t hs ht => prL_in hn hs.1 hs.2 ht
  rw [show t = 0 from ht]
  refine ⟨⟨Nat.pow_pos (by decide), Nat.pow_pos (by decide), by decide⟩, ?_⟩
  show pc 0 ≤ b
  rw [pc_0]
  exact Nat.zero_le _
theorem prL_mono {n b b' s t : Nat} {P : Nat → Nat} (hb : b ≤ b') (ht : t ∈ prL n P b s) : t ∈ prL n P b' s := by
  obtain ⟨x, hx, hm⟩ := List.mem_flatMap.mp ht
  refine List.mem_flatMap.mpr ⟨x, hx, ?_⟩
  unfold prT at hm ⊢
  split at hm
  · next q => rw [if_pos q]; exact hm
  · next q =>
    rw [if_neg q]
    split at hm
    · next q2 => rw [if_pos q2]; exact hm
    · next q2 =>
      rw [if_neg q2]
      split at hm
      · next q3 => rw [if_pos (by omega)]; exact hm
      · exact absurd hm List.not_mem_nil
theorem PRc.mono {n b b' : Nat} {P : Nat → Nat} (hb : b ≤ b') : ∀ s, PRc n P b s → PRc n P b' s :=
  clo.in (fun s => PRc n P b' s) (fun t ht => clo.of ht) (fun s t hs ht => clo.st hs (prL_mono hb ht))
def eP (wi s : Nat) : Prop := s < 256 ∧ s &&& wi = wi
def PrR (n : Nat) (P : Nat → Nat) (wi : Nat) (r : Int32) : Prop := (r = -1 ∧ ∀ b s, b ≤ n → PRc n P b s → ¬ eP wi s) ∨ ∃ b, r = nI b ∧ b ≤ n ∧ (∃ s, PRc n P b s ∧ eP wi s) ∧ ∀ j, j < b → ∀ s, PRc n P j s → ¬ eP wi s
theorem PrR.uniq {n : Nat} {P : Nat → Nat} {wi : Nat} {r r' : Int32} (h : PrR n P wi r) (h' : PrR n P wi r') : r = r' := by
  rcases h with ⟨rfl, h⟩ | ⟨k, rfl, hk, ⟨s, h1, h2⟩, h3⟩
  · rcases h' with ⟨rfl, -⟩ | ⟨k', -, hk', ⟨s', h1', h2'⟩, -⟩
    · rfl
    · exact absurd h2' (h k' s' hk' h1')
  · rcases h' with ⟨-, h'⟩ | ⟨k', rfl, hk', ⟨s', h1', h2'⟩, h3'⟩
    · exact absurd h2 (h' k s hk h1)
    · rcases Nat.lt_trichotomy k k' with q | q | q
      · exact absurd h2 (h3' k q s h1)
      · rw [q]
      · exact absurd h2' (h3 k' q s' h1')
section Promised
variable {h : AH} {B M q l mo kn n wi : Nat} {P : Nat → Nat} {Q : Option Value → AH → Prop}
def SP2 (mo n b : Nat) (P : Nat → Nat) (qs : List Nat) : Prop := qs.Nodup ∧ (∀ s, s ∈ qs → PRc n P b s) ∧ qs.length ≤ mo
theorem SP2.pr {qs : List Nat} {s b : Nat} (hX : (TR n).length ≤ mo) (hn : n ≤ 8) (g : SP2 mo n b P qs) (hs : s ∈ qs) : vf mo (prT P (s % 256) (s / 256) b) 0 n qs = (prL n P b s).foldl adj qs ∧ SP2 mo n b P ((prL n P b s).foldl adj qs) := by
  obtain ⟨g1, g2, g3⟩ := g
  have hin : ∀ c, c ∈ prL n P b s → PRc n P b c := fun c hc => (g2 s hs).st hc
  have e : vf mo (prT P (s % 256) (s / 256) b) 0 n qs = (prL n P b s).foldl adj qs := by
    rw [vf_eq]
    exact vis_adj hX _ qs g1 (fun c hc => (PRc.in hn c (g2 c hc)).1.mem) (fun c hc => (PRc.in hn c (hin c hc)).1.mem)
  obtain ⟨nw, h1, h2, h3, h4⟩ := adj_adds (prL n P b s) qs
  refine ⟨e, by rw [h1]; exact h2 g1, fun c hc => ?_, ?_⟩
  · rw [h1] at hc
    rcases List.mem_append.mp hc with z | z
    · exact g2 c z
    · exact hin c (h3 c z)
  · rw [← e, vf_eq]
    exact vfold_len _ _ g3
/-- with b + 1 bowls: i is the next of those -/
def PB (n b : Nat) (P : Nat → Nat) (old i : Nat) (qs : List Nat) : Prop := old ≤ qs.length ∧ (∀ s, PRc n P b s → s ∈ qs.take old) ∧ (∀ s, s ∈ qs.take old → PRc n P b s) ∧ i ≤ qs.length ∧ ∀ s, s ∈ qs.take i → ∀ t, t ∈ prL n P (b + 1) s → t ∈ qs
theorem PB.step {n b : Nat} {P : Nat → Nat} {old i s : Nat} {qs : List Nat} (c : PB n b P old i qs) (hs : qs[i]? = some s) : PB n b P old (i + 1) ((prL n P (b + 1) s).foldl adj qs) := by
  obtain ⟨c1, c2, c3, c4, c5⟩ := c
  obtain ⟨nw, h1, h2, h3, h4⟩ := adj_adds (prL n P (b + 1) s) qs
  have hil : i < qs.length := by
    obtain ⟨hl, -⟩ := List.getElem?_eq_some_iff.mp hs
    exact hl
  rw [h1]
  refine ⟨by rw [List.length_append]; omega, by rw [take_app c1]; exact c2, by rw [take_app c1]; exact c3, by rw [List.length_append]; omega, fun s' hs' t ht => ?_⟩
  rw [take_app (by omega), List.take_add_one, hs] at hs'
  rcases List.mem_append.mp hs' with z | z
  · exact List.mem_append_left _ (c5 s' z t ht)
  · have : s' = s := by simpa using z
    rw [this] at ht
    exact h4 t ht
theorem PB.skip {n b : Nat} {P : Nat → Nat} {old i s : Nat} {qs : List Nat} (c : PB n b P old i qs) (hs : qs[i]? = some s) (hi : i < old) (hlt : pcC s < b) : PB n b P old (i + 1) qs := by
  obtain ⟨c1, c2, c3, c4, c5⟩ := c
  have hil : i < qs.length := by
    obtain ⟨hl, -⟩ := List.getElem?_eq_some_iff.mp hs
    exact hl
  refine ⟨c1, c2, c3, by omega, fun s' hs' t ht => ?_⟩
  rw [List.take_add_one, hs] at hs'
  rcases List.mem_append.mp hs' with z | z
  · exact c5 s' z t ht
  · have e : s' = s := by simpa using z
    rw [e] at ht
    have hso : s ∈ qs.take old := List.mem_of_getElem? (i := i) (by rw [List.getElem?_take_of_lt hi]; exact hs)
    rw [prL_same (show pcC s < b + 1 by omega) hlt] at ht
    exact List.mem_of_mem_take (c2 t ((c3 s hso).st ht))
theorem prom_l (x : VX h q l mo) (hmo : mo ≤ 65536) (hX : (TR n).length ≤ mo) (hp : NetP h kn n P) (po : PartsOK n P) (hn8 : n ≤ 8) (hkn : kn + 10 < 27) (hwi : wi < 2 ^ n) (h2 : hI h kn 2 = nI wi) {st : Int32}
    (k : ∀ r qu mk m, PrR n P wi r → Q (some (.int r)) (VHp h q l qu mk m)) :
    ∀ d b qs qu mk y4 y5, n - b = d → b ≤ n → SP2 mo n b P qs → (∀ s, PRc n P b s → s ∈ qs) → (∀ j, j < b + 1 → ∀ s, PRc n P j s → ¬ eP wi s) → VR qu mk qs → WP 90 35 [.ref 64, .ref kn, .int st, .int (nI (b + 1)), y4, y5] [] (VHp h q l qu mk qs.length) Q := by
  obtain ⟨⟨t1, t2, t3, t4, t5, t6⟩, ⟨l1, l2, l3, l4⟩, ⟨n1, n2, n3⟩, x1⟩ := id x
  have hr := VHp_r (h := h) n1 n2 n3
  have ekn : ∀ qu mk m, hI (VHp h q l qu mk m) kn = hI h kn := fun qu mk m => x.nn (by omega) qu mk m
  have hF := hp.1
  have hwi6 := lt256 hwi hn8
  have hn14 := hp.2.2.1
  -- the new ones
  have lpB : ∀ b old, b + 1 ≤ n → (∀ j, j < b + 1 → ∀ s, PRc n P j s → ¬ eP wi s) → (∀ qs qu mk y4 y5, SP2 mo n (b + 1) P qs → (∀ s, PRc n P (b + 1) s → s ∈ qs) → (∀ j, j < b + 2 → ∀ s, PRc n P j s → ¬ eP wi s) → VR qu mk qs → WP 90 35 [.ref 64, .ref kn, .int st, .int (nI (b + 2)), y4, y5] [] (VHp h q l qu mk qs.length) Q) →
      ∀ d i qs qu mk, mo - i = d → old ≤ i → PB n b P old i qs → SP2 mo n (b + 1) P qs → (∀ j s, old ≤ j → j < i → qs[j]? = some s → ¬ eP wi s) → VR qu mk qs → WP 90 112 [.ref 64, .ref kn, .int st, .int (nI (b + 1)), .int (nI old), .int (nI i)] [] (VHp h q l qu mk qs.length) Q := by
    intro b old hbn hne hnext d
    have fin : ∀ i qs qu mk, old ≤ i → PB n b P old i qs → SP2 mo n (b + 1) P qs → (∀ j s, old ≤ j → j < i → qs[j]? = some s → ¬ eP wi s) → VR qu mk qs → qs.length ≤ i → WP 90 112 [.ref 64, .ref kn, .int st, .int (nI (b + 1)), .int (nI old), .int (nI i)] [] (VHp h q l qu mk qs.length) Q := fun i qs qu mk hoi pb sp hno vr hi => by
      obtain ⟨p1, p2, p3, p4, p5⟩ := pb
      have hqm := sp.2.2
      have hle : nI qs.length ≤ nI i := nI_le hi (by omega)
      rw [List.take_of_length_le hi] at p5
      have hall : ∀ s, PRc n P (b + 1) s → s ∈ qs := clo.in (fun s => s ∈ qs) (fun t ht => List.mem_of_mem_take (p2 t (clo.of ht))) (fun s t hs ht => p5 s hs t ht)
      rw [w90_112]
      simp only [w90_b, w90_c, hr, t1, hle, true_implies, not_true_eq_false, false_implies, and_true, nI_1]
      refine hnext qs qu mk _ _ sp hall (fun j hj s hs => ?_) vr
      rcases Nat.lt_or_ge j (b + 1) with z | z
      · exact hne j z s hs
      · have : j = b + 1 := by omega
        subst this
        obtain ⟨i', hi'⟩ := List.getElem?_of_mem (hall s hs)
        rcases Nat.lt_or_ge i' old with w | w
        · exact hne b (by omega) s (p3 s (List.mem_of_getElem? (i := i') (by rw [List.getElem?_take_of_lt w]; exact hi')))
        · obtain ⟨hl, -⟩ := List.getElem?_eq_some_iff.mp hi'
          exact hno i' s w (by omega) hi'
    induction d with
    | zero =>
      intro i qs qu mk hd hoi pb sp hno vr
      exact fin i qs qu mk hoi pb sp hno vr (by have := sp.2.2; omega)
    | succ d ih =>
      intro i qs qu mk hd hoi pb sp hno vr
      by_cases q1 : qs.length ≤ i
      · exact fin i qs qu mk hoi pb sp hno vr q1
      · have hqm := sp.2.2
        have hle : ¬ nI qs.length ≤ nI i := nI_ge (by omega) (by omega)
        have hle2 : ¬ nI mo ≤ nI i := nI_ge (by omega) (by omega)
        obtain ⟨s, hs⟩ : ∃ s, qs[i]? = some s := ⟨_, List.getElem?_eq_getElem (by omega)⟩
        have hsm := List.mem_of_getElem? hs
        have hsP := sp.2.1 s hsm
        obtain ⟨hsi, hspc⟩ := PRc.in hn8 s hsP
        have hqu := vr.1 i s hs
        have hs1 := lt256 hsi.1 hn8
        have hs2 := lt256 hsi.2.1 hn8
        have hs9 : s < 2 ^ 31 := by omega
        have ci : (nI i).toNatClampNeg = i := nI_clamp (by omega)
        have ii : inb (nI i) (hL h q) = true := inb_nI (by omega) (by omega)
        have hab : s &&& wi < 2 ^ 31 := Nat.lt_of_le_of_lt Nat.and_le_left (by omega)
        obtain ⟨e1, sp'⟩ := sp.pr hX hn8 hsm
        have more : ¬ eP wi s → ∀ qu' mk', VR qu' mk' ((prL n P (b + 1) s).foldl adj qs) → WP 90 112 [.ref 64, .ref kn, .int st, .int (nI (b + 1)), .int (nI old), .int (nI (i + 1))] [] (VHp h q l qu' mk' ((prL n P (b + 1) s).foldl adj qs).length) Q := fun hns qu' mk' g => by
          refine ih (i + 1) _ qu' mk' (by omega) (by omega) (pb.step hs) sp' (fun j s' g1 g2 hs' => ?_) g
          obtain ⟨nw, z1, -⟩ := adj_adds (prL n P (b + 1) s) qs
          rw [z1, List.getElem?_append_left (by omega)] at hs'
          rcases Nat.lt_or_ge j i with w | w
          · exact hno j s' g1 w hs'
          · have : j = i := by omega
            subst this
            rw [hs] at hs'
            cases hs'
            exact hns
        rw [w90_112]
        by_cases q3 : s &&& wi = wi
        · have q3' : nI s &&& nI wi = nI wi := by rw [nI_and, q3]
          by_cases q4 : s ≤ 255
          · have c4 : ¬ (255 : Int32) < nI s := nI_nlt (a := 255) q4 (by decide)
            simp only [w90_b, w90_c, hle, hle2, hr, ekn, t1, t2, t4, t6, ci, ii, hqu, hF, h2, s141, q3', c4, if_true, i32_10, Option.toList_some, List.cons_append, List.nil_append, true_or, or_true, true_implies, not_true_eq_false, not_false_eq_true, false_implies, and_true, true_and]
            exact k _ _ _ _ (Or.inr ⟨b + 1, rfl, hbn, ⟨s, hsP, by omega, q3⟩, hne⟩)
          · have c4 : (255 : Int32) < nI s := nI_lt (a := 255) (by omega) hs9
            simp only [w90_b, w90_c, hle, hle2, hr, ekn, t1, t2, t4, t6, ci, ii, hqu, hF, h2, s141, q3', c4, shr8 hs9, and255, if_true, i32_10, Option.toList_some, List.cons_append, List.nil_append, true_or, or_true, true_implies, not_true_eq_false, not_false_eq_true, false_implies, and_true, true_and]
            refine s91 x (by omega) hp po hn8 hkn hsi.1 hsi.2.1 (by omega) hqm vr fun qu' mk' g => ?_
            rw [e1] at g ⊢
            simp only [w90_c, Option.toList_none, List.nil_append, nI_1]
            exact more (fun z => q4 (by have := z.1; omega)) qu' mk' g
        · have q3' : ¬ nI s &&& nI wi = nI wi := fun z => by rw [nI_and] at z; exact q3 (nI_inj hab (by omega) z)
          simp only [w90_b, w90_c, hle, hle2, hr, ekn, t1, t2, t4, t6, ci, ii, hqu, hF, h2, s141, q3', shr8 hs9, and255, if_false, Option.toList_some, List.cons_append, List.nil_append, true_or, or_true, true_implies, not_true_eq_false, not_false_eq_true, false_implies, and_true, true_and]
          refine s91 x (by omega) hp po hn8 hkn hsi.1 hsi.2.1 (by omega) hqm vr fun qu' mk' g => ?_
          rw [e1] at g ⊢
          simp only [w90_c, Option.toList_none, List.nil_append, nI_1]
          exact more (fun z => q3 z.2) qu' mk' g
  -- the old ones
  have lpA : ∀ b old, b + 1 ≤ n → old ≤ mo → (∀ j, j < b + 1 → ∀ s, PRc n P j s → ¬ eP wi s) → (∀ qs qu mk y4 y5, SP2 mo n (b + 1) P qs → (∀ s, PRc n P (b + 1) s → s ∈ qs) → (∀ j, j < b + 2 → ∀ s, PRc n P j s → ¬ eP wi s) → VR qu mk qs → WP 90 35 [.ref 64, .ref kn, .int st, .int (nI (b + 2)), y4, y5] [] (VHp h q l qu mk qs.length) Q) →
      ∀ d i qs qu mk, old - i = d → i ≤ old → PB n b P old i qs → SP2 mo n (b + 1) P qs → VR qu mk qs → WP 90 52 [.ref 64, .ref kn, .int st, .int (nI (b + 1)), .int (nI old), .int (nI i)] [] (VHp h q l qu mk qs.length) Q := by
    intro b old hbn hold9 hne hnext d
    induction d with
    | zero =>
      intro i qs qu mk hd hio pb sp vr
      have hle : nI old ≤ nI i := nI_le (by omega) (by omega)
      have : i = old := by omega
      subst this
      rw [w90_52]
      simp only [w90_a, w90_b, hle, true_implies, not_true_eq_false, false_implies, and_true]
      exact lpB b i hbn hne hnext (mo - i) i qs qu mk rfl (Nat.le_refl _) pb sp (fun j s g1 g2 => by omega) vr
    | succ d ih =>
      intro i qs qu mk hd hio pb sp vr
      have hqm := sp.2.2
      have hol := pb.1
      have hle : ¬ nI old ≤ nI i := nI_ge (by omega) (by omega)
      obtain ⟨s, hs⟩ : ∃ s, qs[i]? = some s := ⟨_, List.getElem?_eq_getElem (by omega)⟩
      have hsm := List.mem_of_getElem? hs
      have hso : s ∈ qs.take old := List.mem_of_getElem? (i := i) (by rw [List.getElem?_take_of_lt (by omega)]; exact hs)
      have hsb := pb.2.2.1 s hso
      obtain ⟨hsi, hspc⟩ := PRc.in hn8 s hsb
      have hqu := vr.1 i s hs
      have hs1 := lt256 hsi.1 hn8
      have hs2 := lt256 hsi.2.1 hn8
      have hs9 : s < 2 ^ 31 := by omega
      have hs16 : s < 65536 := by omega
      have hbc : bcI (nI s) = nI (pcC s) := by rw [bc_pc hs16, pc_code hn8 hsi]
      have ci : (nI i).toNatClampNeg = i := nI_clamp (by omega)
      have ii : inb (nI i) (hL h q) = true := inb_nI (by omega) (by omega)
      have em : nI (b + 1) - 1 = nI b := nI_m1 b
      rw [w90_52]
      by_cases q3 : pcC s = b
      · have q3' : nI (pcC s) = nI b := by rw [q3]
        obtain ⟨e1, sp'⟩ := sp.pr hX hn8 hsm
        simp only [w90_a, w90_b, hle, hr, t1, t2, t4, ci, ii, hqu, s218, hbc, em, q3', shr8 hs9, and255, Option.toList_some, List.cons_append, List.nil_append, true_or, or_true, true_implies, not_true_eq_false, not_false_eq_true, false_implies, and_true, true_and]
        refine s91 x (by omega) hp po hn8 hkn hsi.1 hsi.2.1 (by omega) hqm vr fun qu' mk' g => ?_
        rw [e1] at g ⊢
        simp only [w90_a, w90_b, Option.toList_none, List.nil_append, nI_1]
        exact ih (i + 1) _ qu' mk' (by omega) (by omega) (pb.step hs) sp' g
      · have q3' : ¬ nI (pcC s) = nI b := fun z => q3 (nI_inj (by have := pc_le (s % 256 ||| s / 256); unfold pcC; omega) (by omega) z)
        simp only [w90_a, w90_b, hle, hr, t1, t2, t4, ci, ii, hqu, s218, hbc, em, q3', Option.toList_some, List.cons_append, List.nil_append, true_or, or_true, true_implies, not_true_eq_false, not_false_eq_true, false_implies, and_true, true_and, nI_1]
        exact ih (i + 1) qs qu mk (by omega) (by omega) (pb.skip hs (by omega) (by omega)) sp vr
  intro d
  induction d with
  | zero =>
    intro b qs qu mk y4 y5 hd hb sp hall hne vr
    have hlt : nI n < nI (b + 1) := nI_lt (by omega) (by omega)
    rw [w90_35]
    simp only [w90_a, w90_b, w90_c, hr, ekn, hF, hp.2.1, hlt, true_or, or_true, true_implies, not_true_eq_false, not_false_eq_true, false_implies, and_true, true_and]
    exact k _ _ _ _ (Or.inl ⟨rfl, fun j s hj hs => hne j (by omega) s hs⟩)
  | succ d ih =>
    intro b qs qu mk y4 y5 hd hb sp hall hne vr
    have hqm := sp.2.2
    have hlt : ¬ nI n < nI (b + 1) := nI_nlt (by omega) (by omega)
    rw [w90_35]
    simp only [w90_a, hr, ekn, t1, hF, hp.2.1, hlt, true_implies, not_true_eq_false, not_false_eq_true, false_implies, and_true, true_and]
    refine lpA b qs.length (by omega) hqm hne (fun qs' qu' mk' y4 y5 g1 g2 g3 g4 => ih (b + 1) qs' qu' mk' y4 y5 (by omega) (by omega) g1 g2 g3 g4) qs.length 0 qs qu mk rfl (Nat.zero_le _) ⟨Nat.le_refl _, by rw [List.take_length]; exact hall, by rw [List.take_length]; exact sp.2.1, Nat.zero_le _, fun s hs => by simp at hs⟩ ⟨sp.1, fun s hs => PRc.mono (Nat.le_succ b) s (sp.2.1 s hs), hqm⟩ vr
theorem s90 (cw : CW B M h) (hkn : kn = 4 ∨ kn = 15) (hp : NetP h kn n P) (po : PartsOK n P) (hn8 : n ≤ 8) (hw0 : 0 < wi) (hwi : wi < 2 ^ n) (h2 : hI h kn 2 = nI wi)
    (k : ∀ h' r, PrR n P wi r → CW B M h' → CFr (fun a => a = 64) (fun _ => False) h h' → Q (some (.int r)) h') : WPM 90 [.ref 64, .ref kn] h Q := by
  have a1 : hT h 64 = 10 := by simp only [cw.1]
  have hF := hp.1
  have h0 := hp.2.1
  have hm : 3 ^ n ∈ sizes := pow3_sizes hn8
  have hmo : 3 ^ n ≤ 65536 := by
    have : ∀ x ∈ sizes, x ≤ 65536 := by decide
    exact this _ hm
  have hpos : 0 < 3 ^ n := Nat.pow_pos (by decide)
  have cont : WP 90 4 [.ref 64, .ref kn, .int (nI (3 ^ n)), .int (nI n), .retAddr 0, .retAddr 0] [] h Q := by
    have hle : nI n ≤ nI n := Int32.le_refl _
    rw [w90_4]
    simp only [w90_a, hF, h0, a1, hle, true_implies, not_true_eq_false, false_implies, and_true]
    refine s82 cw hm fun h1 qu mk cw1 cf1 x vr => ?_
    have hp1 : NetP h1 kn n P := hp.cfr cf1 cw cw1 hkn (by omega) (by omega)
    have eI : hI h1 kn = hI h kn := cf1.keep cw (by omega) (by omega) (by omega)
    have hr := VHp_r (h := h1) x.2.2.1.1 x.2.2.1.2.1 x.2.2.1.2.2
    simp only [w90_a, hr, x.1.1, Option.toList_none, List.nil_append]
    have hv : vis (3 ^ n) [] (256 * 0 + 0) = [0] := by
      unfold vis
      rw [if_neg]
      · rfl
      · rintro (z | z)
        · exact absurd z List.not_mem_nil
        · rw [List.length_nil] at z
          omega
    refine s83 (a := 0) (b := 0) (qs := []) x (by omega) (by decide) (by decide) (Nat.zero_le _) vr fun qu' mk' g => ?_
    rw [hv] at g ⊢
    simp only [w90_a, Option.toList_none, List.nil_append]
    have h00 : ∀ s, PRc n P 0 s → s = 0 := fun s hs => by
      obtain ⟨⟨i1, i2, i3⟩, i4⟩ := PRc.in hn8 s hs
      have hz : pc (s % 256 ||| s / 256) = 0 := by unfold pcC at i4; omega
      have hor := lt256 (or_lt2 i1 i2) hn8
      have hor0 : s % 256 ||| s / 256 = 0 := by
        rcases Nat.eq_zero_or_pos (s % 256 ||| s / 256) with z | z
        · exact z
        · have := pc_pos (show s % 256 ||| s / 256 ≠ 0 by omega) (by omega)
          omega
      have l1 : s % 256 ≤ s % 256 ||| s / 256 := Nat.left_le_or
      have l2 : s / 256 ≤ s % 256 ||| s / 256 := Nat.right_le_or
      omega
    refine prom_l x hmo (Nat.le_of_eq (TR_len n)) hp1 po hn8 (by omega) hwi (by rw [eI]; exact h2) (fun r qu2 mk2 m2 cr => ?_) n 0 [0] qu' mk' _ _ rfl (Nat.zero_le _) ⟨by simp, fun s hs => ?_, by rw [List.length_singleton]; omega⟩ (fun s hs => by rw [h00 s hs]; exact List.mem_cons_self) (fun j hj s hs => ?_) g
    · exact k _ r cr (cw1.ofI VHp_only) (cf1.trans' (CFr.ofIJ (J' := fun _ => False) (OnlyI.ij VHp_only) (fun a z => by rcases z with z | z | z; exact Or.inr (Or.inl z); exact Or.inr (Or.inr (Or.inl z)); exact Or.inl z) (fun a z => z.elim)))
    · have : s = 0 := by simpa using hs
      rw [this]
      exact clo.of rfl
    · have : j = 0 := by omega
      subst this
      rw [h00 s hs]
      intro z
      have := z.2
      rw [Nat.zero_and] at this
      omega
  have lp : ∀ d y, n - y = d → y ≤ n → WP 90 4 [.ref 64, .ref kn, .int (nI (3 ^ y)), .int (nI y), .retAddr 0, .retAddr 0] [] h Q := by
    intro d
    induction d with
    | zero =>
      intro y hd hy
      have : y = n := by omega
      subst this
      exact cont
    | succ d ih =>
      intro y hd hy
      have hle : ¬ nI n ≤ nI y := nI_ge (by omega) (by omega)
      have e3 : nI (3 ^ y) * 3 = nI (3 ^ (y + 1)) := by
        rw [Nat.pow_succ]
        exact pk_mul _ 3
      rw [w90_4]
      simp only [w90_a, hF, h0, hle, e3, true_implies, not_true_eq_false, not_false_eq_true, false_implies, and_true, true_and, nI_1]
      exact ih (y + 1) (by omega) (by omega)
  rw [we90]
  simp only [w90_a]
  exact lp n 0 rfl (Nat.zero_le _)
end Promised

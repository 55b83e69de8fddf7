/-! ===== the reference's carry, in numbers: how far the least carrying can be ===== -/
/-- levels: each one up to the first that has a W brings something new -/
def Stab (V : Nat → Nat → Prop) : Prop := ∀ j, (∀ a, V j a → ∃ i, i < j ∧ V i a) → ∀ m a, V m a → ∃ i, i < j ∧ V i a
theorem lev_new {V : Nat → Nat → Prop} (hV : Stab V) {W : Nat → Prop} {L s : Nat} (hs : V L s) (hW : W s) (hno : ∀ j a, j < L → V j a → ¬ W a) : ∀ j, j ≤ L → ∃ a, V j a ∧ ∀ i, i < j → ¬ V i a := by
  intro j hj
  refine Classical.byContradiction fun hc => ?_
  have h1 : ∀ a, V j a → ∃ i, i < j ∧ V i a := fun a ha => Classical.byContradiction fun h2 => hc ⟨a, ha, fun i hi hv => h2 ⟨i, hi, hv⟩⟩
  obtain ⟨i, hi, hv⟩ := hV j h1 L s hs
  exact hno i s (by omega) hv hW
theorem lev_cnt {V : Nat → Nat → Prop} (hV : Stab V) {W : Nat → Prop} {X : List Nat} {L s : Nat} (hs : V L s) (hW : W s) (hno : ∀ j a, j < L → V j a → ¬ W a) (hX : ∀ j a, j < L → V j a → a ∈ X) : L ≤ X.length := by
  have key : ∀ m, m ≤ L → ∃ l : List Nat, l.length = m ∧ l.Nodup ∧ ∀ a, a ∈ l → ∃ j, j < m ∧ V j a := by
    intro m
    induction m with
    | zero => exact fun _ => ⟨[], rfl, by simp, fun a ha => absurd ha List.not_mem_nil⟩
    | succ m ih =>
      intro hm
      obtain ⟨l, h1, h2, h3⟩ := ih (by omega)
      obtain ⟨a, ha, hn⟩ := lev_new hV hs hW hno m (by omega)
      refine ⟨a :: l, by rw [List.length_cons, h1], List.nodup_cons.mpr ⟨fun z => ?_, h2⟩, fun c hc => ?_⟩
      · obtain ⟨j, hj, hv⟩ := h3 a z
        exact hn j hj hv
      · rcases List.mem_cons.mp hc with z | z
        · rw [z]
          exact ⟨m, by omega, ha⟩
        · obtain ⟨j, hj, hv⟩ := h3 c z
          exact ⟨j, by omega, hv⟩
  obtain ⟨l, h1, h2, h3⟩ := key L (Nat.le_refl _)
  have := List.Nodup.length_le_of_subset h2 (l₂ := X) (fun a ha => by
    obtain ⟨j, hj, hv⟩ := h3 a ha
    exact hX j a hj hv)
  omega
theorem Cy.stab {pl ca : Nat → List Nat} {s0 : Nat} : Stab (Cy pl ca s0) := by
  intro j hj m
  induction m with
  | zero =>
    intro a ha
    rcases Nat.eq_zero_or_pos j with z | z
    · subst z
      exact hj a ha
    · exact ⟨0, z, ha⟩
  | succ m ih =>
    refine clo.in (fun a => ∃ i, i < j ∧ Cy pl ca s0 i a) (fun t ht => ?_) fun s t hs ht => ?_
    · obtain ⟨s, h1, h2⟩ := ht
      obtain ⟨i, hi, hv⟩ := ih s h1
      have h3 : Cy pl ca s0 (i + 1) t := clo.of ⟨s, hv, h2⟩
      by_cases q : i + 1 = j
      · rw [q] at h3
        exact hj t h3
      · exact ⟨i + 1, by omega, h3⟩
    · obtain ⟨i, hi, hv⟩ := hs
      exact ⟨i, hi, hv.pl ht⟩
/-- one search behind another -/
theorem Cy.add {pl ca up : Nat → List Nat} {s0 s1 a : Nat} (h1 : Cy pl ca s0 a s1) (hu : ∀ s t, t ∈ up s → t ∈ ca s) : ∀ j s, Cy pl up s1 j s → Cy pl ca s0 (a + j) s := by
  intro j
  induction j with
  | zero => exact clo.in (fun s => Cy pl ca s0 a s) (fun t ht => by rw [ht]; exact h1) (fun s t hs ht => hs.pl ht)
  | succ j ih =>
    refine clo.in (fun s => Cy pl ca s0 (a + j + 1) s) (fun t ht => ?_) (fun s t hs ht => hs.pl ht)
    obtain ⟨s, h2, h3⟩ := ht
    exact clo.of ⟨s, ih s h2, hu s t h3⟩
/-- UP alone -/
def upT (n b s : Nat) : List Nat := (List.range' 0 n).flatMap (fun x => if (s % 256).testBit x = true then [] else if pc (s % 256) < b ∧ (s / 256).testBit x = true then [cod (s % 256 ||| 2 ^ x) (s / 256)] else [])
theorem up_ca {n b s t : Nat} (h : t ∈ upT n b s) : t ∈ caT n b s := by
  unfold upT at h
  unfold caT
  rw [List.mem_flatMap] at h ⊢
  obtain ⟨x, hx, ht⟩ := h
  refine ⟨x, hx, ?_⟩
  unfold udT
  split at ht
  · exact absurd ht List.not_mem_nil
  · next q =>
    rw [if_neg q]
    exact ht
/-- the cellar stays -/
theorem pl_hi {n b s t : Nat} {P : Nat → Nat} (hn : n ≤ 8) (hs : s % 256 < 2 ^ n) (ht : t ∈ plT n P b s) : t / 256 = s / 256 ∧ t % 256 < 2 ^ n := by
  unfold plT at ht
  rw [List.mem_flatMap] at ht
  obtain ⟨x, hx, ht⟩ := ht
  have hxn := mem_r0.mp hx
  have h6 := lt256 hs hn
  unfold mwT at ht
  split at ht
  · have e : t = cod (sdf (s % 256) (2 ^ x)) (s / 256) := by simpa using ht
    have h1 : sdf (s % 256) (2 ^ x) < 2 ^ n := sdf_lt hs
    rw [e, cod_hi (lt256 h1 hn), cod_lo (lt256 h1 hn)]
    exact ⟨rfl, h1⟩
  · split at ht
    · have e : t = cod (s % 256 ||| 2 ^ x) (s / 256) := by simpa using ht
      have h1 : s % 256 ||| 2 ^ x < 2 ^ n := or_lt2 hs (p2_lt hxn)
      rw [e, cod_hi (lt256 h1 hn), cod_lo (lt256 h1 hn)]
      exact ⟨rfl, h1⟩
    · exact absurd ht List.not_mem_nil
theorem up_hi {n b s t : Nat} (hn : n ≤ 8) (hs : s % 256 < 2 ^ n) (ht : t ∈ upT n b s) : t / 256 = s / 256 ∧ t % 256 < 2 ^ n := by
  unfold upT at ht
  rw [List.mem_flatMap] at ht
  obtain ⟨x, hx, ht⟩ := ht
  have hxn := mem_r0.mp hx
  split at ht
  · exact absurd ht List.not_mem_nil
  · split at ht
    · have e : t = cod (s % 256 ||| 2 ^ x) (s / 256) := by simpa using ht
      have h1 : s % 256 ||| 2 ^ x < 2 ^ n := or_lt2 hs (p2_lt hxn)
      rw [e, cod_hi (lt256 h1 hn), cod_lo (lt256 h1 hn)]
      exact ⟨rfl, h1⟩
    · exact absurd ht List.not_mem_nil
theorem up_in {n b c : Nat} {P : Nat → Nat} (hn : n ≤ 8) : ∀ j s, Cy (plT n P b) (upT n b) (cod 0 c) j s → s / 256 = c ∧ s % 256 < 2 ^ n := by
  have h0 : ∀ t, t = cod 0 c → t / 256 = c ∧ t % 256 < 2 ^ n := fun t ht => by
    rw [ht, cod_hi (by decide), cod_lo (by decide)]
    exact ⟨rfl, Nat.pow_pos (by decide)⟩
  intro j
  induction j with
  | zero =>
    refine clo.in _ h0 fun s t hs ht => ?_
    have := pl_hi hn hs.2 ht
    exact ⟨this.1.trans hs.1, this.2⟩
  | succ j ih =>
    refine clo.in _ (fun t ht => ?_) fun s t hs ht => ?_
    · obtain ⟨s, h1, h2⟩ := ht
      have h3 := ih s h1
      have := up_hi hn h3.2 h2
      exact ⟨this.1.trans h3.1, this.2⟩
    · have := pl_hi hn hs.2 ht
      exact ⟨this.1.trans hs.1, this.2⟩
theorem free_len : ∀ x, x < 8 → ((List.range 256).filter (fun t => !t.testBit x)).length = 128 := by decide +kernel
/-- with the cellar c a table with x comes with 128 UPs, if it comes -/
theorem up_128 {n b c x s m : Nat} {P : Nat → Nat} (hn : n ≤ 8) (hx : x < n) (hs : Cy (plT n P b) (upT n b) (cod 0 c) m s) (hb : s.testBit x = true) : ∃ L s', L ≤ 128 ∧ Cy (plT n P b) (upT n b) (cod 0 c) L s' ∧ s'.testBit x = true := by
  have hbit : ∀ s : Nat, s.testBit x = (s % 256).testBit x := fun s => by
    rw [show (256 : Nat) = 2 ^ 8 from rfl, Nat.testBit_mod_two_pow]
    simp [show x < 8 by omega]
  have ex : ∃ L, ∃ s', Cy (plT n P b) (upT n b) (cod 0 c) L s' ∧ s'.testBit x = true := ⟨m, s, hs, hb⟩
  obtain ⟨L, ⟨s', h1, h2⟩, h3⟩ : ∃ L, (∃ s', Cy (plT n P b) (upT n b) (cod 0 c) L s' ∧ s'.testBit x = true) ∧ ∀ j, j < L → ¬ ∃ s', Cy (plT n P b) (upT n b) (cod 0 c) j s' ∧ s'.testBit x = true := by
    clear hs hb
    obtain ⟨L, hL⟩ := ex
    induction L using Nat.strongRecOn with
    | _ L ih =>
      by_cases q : ∃ j, j < L ∧ ∃ s', Cy (plT n P b) (upT n b) (cod 0 c) j s' ∧ s'.testBit x = true
      · obtain ⟨j, hj, hq⟩ := q
        exact ih j hj hq
      · exact ⟨L, hL, fun j hj hq => q ⟨j, hj, hq⟩⟩
  refine ⟨L, s', ?_, h1, h2⟩
  have := lev_cnt (V := Cy (plT n P b) (upT n b) (cod 0 c)) Cy.stab (W := fun s => s.testBit x = true) (X := ((List.range 256).filter (fun t => !t.testBit x)).map (fun t => cod t c)) h1 h2 (fun j a hj ha hw => h3 j hj ⟨a, ha, hw⟩) (fun j a hj ha => by
    obtain ⟨g1, g2⟩ := up_in hn j a ha
    have hf : ¬ a.testBit x = true := fun hw => h3 j hj ⟨a, ha, hw⟩
    rw [List.mem_map]
    refine ⟨a % 256, ?_, ?_⟩
    · rw [List.mem_filter, List.mem_range]
      rw [hbit] at hf
      refine ⟨Nat.mod_lt _ (by decide), ?_⟩
      simpa using hf
    · unfold cod
      omega)
  rw [List.length_map, free_len x (by omega)] at this
  exact this
/-- more in the cellar, no less can be -/
theorem up_mono {n b c x : Nat} {P : Nat → Nat} (hn : n ≤ 8) (hx : x < n) : ∀ j s, Cy (plT n P b) (upT n b) (cod 0 c) j s → Cy (plT n P b) (upT n b) (cod 0 (c ||| 2 ^ x)) j (cod (s % 256) (c ||| 2 ^ x)) := by
  have hpl : ∀ s t, s / 256 = c → s % 256 < 2 ^ n → t ∈ plT n P b s → cod (t % 256) (c ||| 2 ^ x) ∈ plT n P b (cod (s % 256) (c ||| 2 ^ x)) := by
    intro s t h1 h2 ht
    have h6 := lt256 h2 hn
    unfold plT at ht ⊢
    rw [List.mem_flatMap] at ht ⊢
    obtain ⟨y, hy, ht⟩ := ht
    refine ⟨y, hy, ?_⟩
    have hyn := mem_r0.mp hy
    rw [cod_lo h6, cod_hi h6]
    have g1 : sdf (s % 256) (2 ^ y) < 256 := lt256 (sdf_lt h2) hn
    have g2 : s % 256 ||| 2 ^ y < 256 := lt256 (or_lt2 h2 (p2_lt hyn)) hn
    unfold mwT at ht ⊢
    split
    · next q =>
      rw [if_pos q] at ht
      have e : t = cod (sdf (s % 256) (2 ^ y)) (s / 256) := by simpa using ht
      rw [e, cod_lo g1]
      exact List.mem_singleton.mpr rfl
    · next q =>
      rw [if_neg q] at ht
      split
      · next q2 =>
        rw [if_pos q2] at ht
        have e : t = cod (s % 256 ||| 2 ^ y) (s / 256) := by simpa using ht
        rw [e, cod_lo g2]
        exact List.mem_singleton.mpr rfl
      · next q2 =>
        rw [if_neg q2] at ht
        exact absurd ht List.not_mem_nil
  have hup : ∀ s t, s / 256 = c → s % 256 < 2 ^ n → t ∈ upT n b s → cod (t % 256) (c ||| 2 ^ x) ∈ upT n b (cod (s % 256) (c ||| 2 ^ x)) := by
    intro s t h1 h2 ht
    have h6 := lt256 h2 hn
    unfold upT at ht ⊢
    rw [List.mem_flatMap] at ht ⊢
    obtain ⟨y, hy, ht⟩ := ht
    refine ⟨y, hy, ?_⟩
    have hyn := mem_r0.mp hy
    rw [cod_lo h6, cod_hi h6]
    have g2 : s % 256 ||| 2 ^ y < 256 := lt256 (or_lt2 h2 (p2_lt hyn)) hn
    split
    · next q =>
      rw [if_pos q] at ht
      exact absurd ht List.not_mem_nil
    · next q =>
      rw [if_neg q] at ht
      split at ht
      · next q2 =>
        have e : t = cod (s % 256 ||| 2 ^ y) (s / 256) := by simpa using ht
        rw [h1] at q2
        rw [if_pos ⟨q2.1, by rw [bit_or_pow, q2.2]; rfl⟩, e, cod_lo g2]
        exact List.mem_singleton.mpr rfl
      · exact absurd ht List.not_mem_nil
  have cl : ∀ {S : Nat → Prop} (j : Nat), (∀ s, S s → s / 256 = c ∧ s % 256 < 2 ^ n) → (∀ s, S s → Cy (plT n P b) (upT n b) (cod 0 (c ||| 2 ^ x)) j (cod (s % 256) (c ||| 2 ^ x))) → ∀ s, clo (plT n P b) S s → Cy (plT n P b) (upT n b) (cod 0 (c ||| 2 ^ x)) j (cod (s % 256) (c ||| 2 ^ x)) := by
    intro S j h1 h2 s hs
    have := clo.in (fun s => (s / 256 = c ∧ s % 256 < 2 ^ n) ∧ Cy (plT n P b) (upT n b) (cod 0 (c ||| 2 ^ x)) j (cod (s % 256) (c ||| 2 ^ x))) (fun t ht => ⟨h1 t ht, h2 t ht⟩) (fun s t hs ht => by
      have g := pl_hi hn hs.1.2 ht
      exact ⟨⟨g.1.trans hs.1.1, g.2⟩, hs.2.pl (hpl s t hs.1.1 hs.1.2 ht)⟩) s hs
    exact this.2
  intro j
  induction j with
  | zero =>
    refine cl 0 (fun s hs => ?_) (fun s hs => ?_)
    · rw [hs, cod_hi (by decide), cod_lo (by decide)]
      exact ⟨rfl, Nat.pow_pos (by decide)⟩
    · rw [hs, cod_lo (by decide)]
      exact clo.of rfl
  | succ j ih =>
    refine cl (j + 1) (fun t ht => ?_) (fun t ht => ?_)
    · obtain ⟨s, h1, h2⟩ := ht
      have h3 := up_in hn j s h1
      have := up_hi hn h3.2 h2
      exact ⟨this.1.trans h3.1, this.2⟩
    · obtain ⟨s, h1, h2⟩ := ht
      have h3 := up_in hn j s h1
      exact clo.of ⟨_, ih s h1, hup s t h3.1 h3.2 h2⟩
theorem wash0 {n b c : Nat} {P : Nat → Nat} {V : Nat → Prop} (hn : n ≤ 8) (hV : ∀ s t, V s → t ∈ plT n P b s → V t) : ∀ t, t < 2 ^ n → V (cod t c) → V (cod 0 c) := by
  intro t
  induction t using Nat.strongRecOn with
  | _ t ih =>
    intro ht hv
    rcases Nat.eq_zero_or_pos t with z | z
    · subst z
      exact hv
    · obtain ⟨x, hx⟩ : ∃ x, t.testBit x = true := Nat.exists_testBit_of_ne_zero (by omega)
      have hxn : x < n := Classical.byContradiction fun q => by
        have : t < 2 ^ x := Nat.lt_of_lt_of_le ht (p2_le (by omega))
        rw [Nat.testBit_lt_two_pow this] at hx
        cases hx
      have h6 := lt256 ht hn
      have hlt : sdf t (2 ^ x) < t := by
        have h1 := sdf_le t (2 ^ x)
        have h2 : sdf t (2 ^ x) ≠ t := fun q => by
          have h3 := sdf_bit t (2 ^ x) x
          rw [q, hx, Nat.testBit_two_pow_self] at h3
          simp at h3
        omega
      refine ih _ hlt (by omega) (hV _ _ hv ?_)
      unfold plT
      rw [List.mem_flatMap]
      refine ⟨x, mem_r0.mpr hxn, ?_⟩
      unfold mwT
      rw [cod_lo h6, cod_hi h6, if_pos hx]
      exact List.mem_singleton.mpr rfl
/-- what holds of all that is reached by carrying -/
def CyN (n b R : Nat) (P : Nat → Nat) (s : Nat) : Prop := s / 256 < 2 ^ n ∧ sub R (s / 256) ∧ (∃ j, j ≤ 129 * (pc (s / 256) - pc R) ∧ Cy (plT n P b) (caT n b) (cod 0 R) j (cod 0 (s / 256))) ∧ ∃ m, Cy (plT n P b) (upT n b) (cod 0 (s / 256)) m s
theorem CyN.pl {n b R s t : Nat} {P : Nat → Nat} (hn : n ≤ 8) (h : CyN n b R P s) (ht : t ∈ plT n P b s) : CyN n b R P t := by
  obtain ⟨h1, h2, h3, m, h4⟩ := h
  have g := up_in hn m s h4
  have e := pl_hi hn g.2 ht
  unfold CyN
  rw [e.1]
  exact ⟨h1, h2, h3, m, h4.pl ht⟩
theorem CyN.ca {n b R s t : Nat} {P : Nat → Nat} (hn : n ≤ 8) (h : CyN n b R P s) (ht : t ∈ caT n b s) : CyN n b R P t := by
  obtain ⟨h1, h2, ⟨j, hj, h3⟩, m, h4⟩ := h
  have g := up_in hn m s h4
  have h6 := lt256 g.2 hn
  have hst : cod (s % 256) (s / 256) = s := by unfold cod; omega
  have ht0 := ht
  unfold caT at ht
  rw [List.mem_flatMap] at ht
  obtain ⟨x, hx, ht⟩ := ht
  have hxn := mem_r0.mp hx
  unfold udT at ht
  split at ht
  · next q =>
    have e : t = cod (s % 256) (s / 256 ||| 2 ^ x) := by simpa using ht
    by_cases q2 : (s / 256).testBit x = true
    · rw [or_pow_in q2, hst] at e
      rw [e]
      exact ⟨h1, h2, ⟨j, hj, h3⟩, m, h4⟩
    · have hc : s / 256 ||| 2 ^ x < 2 ^ n := or_lt2 h1 (p2_lt hxn)
      have hbs : s.testBit x = true := by
        rw [show (256 : Nat) = 2 ^ 8 from rfl, Nat.testBit_mod_two_pow] at q
        simpa [show x < 8 by omega] using q
      obtain ⟨L, s', hL, h5, h7⟩ := up_128 hn hxn h4 hbs
      have g' := up_in hn L s' h5
      have hq' : (s' % 256).testBit x = true := by
        rw [show (256 : Nat) = 2 ^ 8 from rfl, Nat.testBit_mod_two_pow, h7]
        simp [show x < 8 by omega]
      have h8 : Cy (plT n P b) (caT n b) (cod 0 R) (j + L) s' := Cy.add h3 (fun s t => up_ca) L s' h5
      have h9 : Cy (plT n P b) (caT n b) (cod 0 R) (j + L + 1) (cod (s' % 256) (s / 256 ||| 2 ^ x)) := by
        refine clo.of ⟨s', h8, ?_⟩
        unfold caT
        rw [List.mem_flatMap]
        refine ⟨x, hx, ?_⟩
        unfold udT
        rw [if_pos hq', g'.1]
        exact List.mem_singleton.mpr rfl
      have h10 := wash0 (P := P) (b := b) (V := Cy (plT n P b) (caT n b) (cod 0 R) (j + L + 1)) hn (fun s t hs ht => hs.pl ht) (s' % 256) g'.2 h9
      have hp := pc_set (s := s / 256) (k := x) (by simpa using q2) (by omega)
      have hsp := sub_pc h2
      have eh : t / 256 = s / 256 ||| 2 ^ x := by rw [e, cod_hi h6]
      refine ⟨by rw [eh]; exact hc, fun i hi => ?_, ⟨j + L + 1, ?_, ?_⟩, m, ?_⟩
      · rw [eh, bit_or_pow, h2 i hi]
        rfl
      · rw [eh, hp]
        omega
      · rw [eh]
        exact h10
      · rw [eh, e]
        exact up_mono hn hxn m s h4
  · next q =>
    split at ht
    · next q2 =>
      have e : t = cod (s % 256 ||| 2 ^ x) (s / 256) := by simpa using ht
      have g2 : s % 256 ||| 2 ^ x < 256 := lt256 (or_lt2 g.2 (p2_lt hxn)) hn
      have eh : t / 256 = s / 256 := by rw [e, cod_hi g2]
      unfold CyN
      rw [eh]
      refine ⟨h1, h2, ⟨j, hj, h3⟩, m + 1, clo.of ⟨s, h4, ?_⟩⟩
      unfold upT
      rw [List.mem_flatMap]
      refine ⟨x, hx, ?_⟩
      rw [if_neg q, if_pos q2]
      exact ht
    · exact absurd ht List.not_mem_nil
theorem cy_all {n b R : Nat} {P : Nat → Nat} (hn : n ≤ 8) (hR : R < 2 ^ n) : ∀ k s, Cy (plT n P b) (caT n b) (cod 0 R) k s → CyN n b R P s := by
  intro k
  induction k with
  | zero =>
    refine clo.in _ (fun t ht => ?_) (fun s t hs ht => hs.pl hn ht)
    rw [ht]
    have e : cod 0 R / 256 = R := cod_hi (by decide)
    unfold CyN
    rw [e]
    exact ⟨hR, fun i hi => hi, ⟨0, by omega, clo.of rfl⟩, 0, clo.of rfl⟩
  | succ k ih =>
    refine clo.in _ (fun t ht => ?_) (fun s t hs ht => hs.pl hn ht)
    obtain ⟨s, h1, h2⟩ := ht
    exact (ih s h1).ca hn h2
theorem cy_903 {n b R wi : Nat} {P : Nat → Nat} (hn : n ≤ 8) (hR : R < 2 ^ n) (hR0 : R ≠ 0) {k s : Nat} (h : Cy (plT n P b) (caT n b) (cod 0 R) k s) (he : eC wi s = true) : ∃ j s', j ≤ 903 ∧ Cy (plT n P b) (caT n b) (cod 0 R) j s' ∧ eC wi s' = true := by
  obtain ⟨h1, h2, ⟨j, hj, h3⟩, -⟩ := cy_all hn hR k s h
  have hp1 := pc_pos (v := R) hR0 (by have := lt256 hR hn; omega)
  have hp2 : pc (s / 256) ≤ n := pc_lt h1 (by omega)
  refine ⟨j, _, ?_, h3, ?_⟩
  · have : pc (s / 256) - pc R ≤ 7 := by omega
    have := Nat.mul_le_mul_left 129 this
    omega
  · unfold eC at he ⊢
    rw [cod_hi (by decide)]
    exact he
/-- the carryings' search may go on with the same states in another order -/
theorem CL.reord {pl ca : Nat → List Nat} {s0 : Nat} {e : Nat → Bool} {k : Nat} {ol cu cu' : List Nat} (c : CL pl ca s0 e k ol.length (ol ++ cu)) (hn : cu'.Nodup) (hm : ∀ s, s ∈ cu' ↔ s ∈ cu) : CL pl ca s0 e k ol.length (ol ++ cu') := by
  obtain ⟨c1, c2, c3, c4, c5, c6, c7, c8⟩ := c
  have ht : (ol ++ cu).take ol.length = ol := by simp
  have ht' : (ol ++ cu').take ol.length = ol := by simp
  have hmm : ∀ s, s ∈ ol ++ cu' ↔ s ∈ ol ++ cu := fun s => by rw [List.mem_append, List.mem_append, hm]
  rw [List.nodup_append] at c1
  refine ⟨?_, by simp, by rw [ht']; rw [ht] at c3; exact c3, fun s hs => c4 s ((hmm s).mp hs), (hmm _).mpr c5, fun j s t h1 h2 h3 => (hmm t).mpr (c6 j s t h1 h2 h3), c7, c8⟩
  rw [List.nodup_append]
  exact ⟨c1.1, hn, fun a ha b hb => c1.2.2 a ha b ((hm b).mp hb)⟩

/-! ===== the reference's tree ===== -/
def TrH (h : AH) (cr dr : Nat → Int32) : AH := setI (setI h 77 cr) 78 dr
theorem TrH_r (h : AH) : ∀ cr dr, hT (TrH h cr dr) = hT h ∧ hL (TrH h cr dr) = hL h ∧ hR (TrH h cr dr) = hR h ∧ hI (TrH h cr dr) 77 = cr ∧ hI (TrH h cr dr) 78 = dr ∧ hI (TrH h cr dr) 70 = hI h 70 ∧ (∀ k v, sI (TrH h cr dr) 77 k v = TrH h (va_up cr k v) dr) ∧ ∀ k v, sI (TrH h cr dr) 78 k v = TrH h cr (va_up dr k v) := by
  intro cr dr
  refine ⟨rfl, rfl, rfl, rfl, rfl, rfl, fun k v => ?_, fun k v => sI_setI _ _ _ _ _⟩
  unfold TrH
  rw [sI_setI_o (by decide), sI_setI]
section Tr
variable {h : AH} {n wi : Nat} {P : Nat → Nat} {Q : Option Value → AH → Prop}
theorem tr_in {k x : Nat} {u : Int32} {cr0 dr0 : Nat → Int32} (ms : MS0 h) (nt : MNt h n P wi) (po : PartsOK n P) (hx : x < n) (hc0 : ∀ y, y < x → cr0 y = nI (cp P y) ∧ dr0 y = nI (dp P y))
    (kk : ∀ cr dr, (∀ y, y ≠ x → cr y = cr0 y ∧ dr y = dr0 y) → cr x = nI (cp P x) → dr x = nI (dp P x) → WP 175 33 [.ref 67, .int (nI k), .int u, .int (nI (x + 1)), .int (nI x)] [] (TrH h cr dr) Q) :
    ∀ e d cr dr, x - d = e → d ≤ x → (∀ y, y ≠ x → cr y = cr0 y ∧ dr y = dr0 y) → cr x = nI (pf P x (fun acc p => acc + cp P p) 1 d) → dr x = nI (pf P x (fun acc p => max acc (dp P p + 1)) 0 d) → pf P x (fun acc p => max acc (dp P p + 1)) 0 d ≤ 100 → WP 175 55 [.ref 67, .int (nI k), .int u, .int (nI x), .int (nI d)] [] (TrH h cr dr) Q := by
  have hr := TrH_r h
  have hn := po.1
  have m0 := nt.2.2 x hx
  have hPx := s_lt hn (po.lt hx)
  have c1 : (nI x).toNatClampNeg = x := nI_clamp (by omega)
  have i1 : inb (nI x) 28 = true := inb_nI (by omega) (by decide)
  have i1' : inb (nI x) 14 = true := inb_nI (by omega) (by decide)
  intro e
  induction e with
  | zero =>
    intro d cr dr he hd h1 h2 h3 h4
    have hle : nI x ≤ nI d := nI_le (by omega) (by omega)
    have hdx : d = x := by omega
    rw [hdx] at h2 h3
    have k' := kk cr dr h1 (by rw [h2, cp_eq]; rfl) (by rw [h3, dp_eq]; rfl)
    rw [w175_55]
    rw [hdx] at hle ⊢
    simp only [w175_a, w175_b, w175_c, hle, zz, nI_1]
    exact k'
  | succ e ih =>
    intro d cr dr he hd h1 h2 h3 h4
    have hdx : d < x := by omega
    have hle : ¬ nI x ≤ nI d := nI_ge hdx (by omega)
    have e1 := mtb0 (s := P x) (x := d) (by omega) (by omega)
    have c2 : (nI d).toNatClampNeg = d := nI_clamp (by omega)
    have i2 : inb (nI d) 14 = true := inb_nI (by omega) (by decide)
    obtain ⟨hcd, hdd⟩ := h1 d (by omega)
    obtain ⟨hcd', hdd'⟩ := hc0 d hdx
    rw [hcd'] at hcd
    rw [hdd'] at hdd
    have hs1 := pf_succ (P := P) (k := x) (f := fun acc p => acc + cp P p) (a0 := 1) (m := d)
    have hs2 := pf_succ (P := P) (k := x) (f := fun acc p => max acc (dp P p + 1)) (a0 := 0) (m := d)
    rw [w175_55]
    by_cases q : (P x).testBit d = true
    · rw [if_pos q] at hs1 hs2
      have hdp := dp_le (P := P) d
      have hup : ∀ (f f0 : Nat → Int32) v, (∀ y, y ≠ x → f y = f0 y) → ∀ y, y ≠ x → va_up f x v y = f0 y := fun f f0 v hf y hy => by rw [up_at, if_neg hy]; exact hf y hy
      have hdne : ∀ v : Int32, va_up dr x v d = dr d := fun v => by rw [up_at, if_neg (by omega)]
      have hcmp : (nI (dp P d + 1) ≤ nI (pf P x (fun acc p => max acc (dp P p + 1)) 0 d)) ↔ dp P d + 1 ≤ pf P x (fun acc p => max acc (dp P p + 1)) 0 d := nI_leI (by omega) (by omega)
      by_cases q2 : dp P d + 1 ≤ pf P x (fun acc p => max acc (dp P p + 1)) 0 d
      · simp only [w175_a, w175_b, w175_c, hle, hr, ms, c1, i1, i1', c2, i2, m0, e1, q, h2, h3, hcd, hdd, nI_add, nI_1, hcmp, q2, zz]
        refine ih (d + 1) _ _ (by omega) (by omega) (fun y hy => ⟨hup cr cr0 _ (fun z hz => (h1 z hz).1) y hy, hup dr dr0 _ (fun z hz => (h1 z hz).2) y hy⟩) (by rw [up_at, if_pos rfl, hs1]) ?_ ?_
        · rw [up_at, if_pos rfl, hs2, Nat.max_eq_left q2]
        · rw [hs2]; omega
      · simp only [w175_a, w175_b, w175_c, hle, hr, ms, c1, i1, i1', c2, i2, m0, e1, q, h2, h3, hcd, hdd, nI_add, nI_1, hcmp, q2, zz]
        refine ih (d + 1) _ _ (by omega) (by omega) (fun y hy => ⟨hup cr cr0 _ (fun z hz => (h1 z hz).1) y hy, hup dr dr0 _ (fun z hz => (h1 z hz).2) y hy⟩) (by rw [up_at, if_pos rfl, hs1]) ?_ ?_
        · rw [up_at, if_pos rfl, hs2, Nat.max_eq_right (by omega)]
        · rw [hs2]; omega
    · rw [if_neg q] at hs1 hs2
      simp only [w175_a, w175_b, w175_c, hle, hr, ms, c1, i1, m0, e1, q, zz, nI_1]
      exact ih (d + 1) cr dr (by omega) (by omega) h1 (by rw [hs1]; exact h2) (by rw [hs2]; exact h3) (by rw [hs2]; exact h4)
theorem tr_out {k : Nat} {u : Int32} (ms : MS0 h) (nt : MNt h n P wi) (po : PartsOK n P) (hk : k < n)
    (kk : ∀ cr dr y4, (∀ y, y < k + 1 → cr y = nI (cp P y) ∧ dr y = nI (dp P y)) → WP 175 148 [.ref 67, .int (nI k), .int u, .int (nI (k + 1)), y4] [] (TrH h cr dr) Q) :
    ∀ e x cr dr y4, k + 1 - x = e → x ≤ k + 1 → (∀ y, y < x → cr y = nI (cp P y) ∧ dr y = nI (dp P y)) → WP 175 33 [.ref 67, .int (nI k), .int u, .int (nI x), y4] [] (TrH h cr dr) Q := by
  have hr := TrH_r h
  have hn := po.1
  intro e
  induction e with
  | zero =>
    intro x cr dr y4 he hx hc
    have hxk : x = k + 1 := by omega
    have hlt : nI k < nI x := nI_lt (by omega) (by omega)
    rw [hxk] at hc
    have k' := kk cr dr y4 hc
    rw [w175_33]
    rw [hxk] at hlt ⊢
    simp only [w175_a, w175_b, w175_c, hlt, zz] at k' ⊢
    exact k'
  | succ e ih =>
    intro x cr dr y4 he hx hc
    have hlt : ¬ nI k < nI x := nI_nlt (by omega) (by omega)
    have c1 : (nI x).toNatClampNeg = x := nI_clamp (by omega)
    have i1' : inb (nI x) 14 = true := inb_nI (by omega) (by decide)
    rw [w175_33]
    simp only [w175_a, w175_b, w175_c, hlt, hr, ms, c1, i1', zz]
    have hup : ∀ (f : Nat → Int32) v, ∀ y, y ≠ x → va_up f x v y = f y := fun f v y hy => by rw [up_at, if_neg hy]
    have go := tr_in (Q := Q) (k := k) (u := u) (x := x) (cr0 := cr) (dr0 := dr) ms nt po (by omega) hc (fun cr' dr' g1 g2 g3 => ?_) x 0 (va_up cr x 1) (va_up dr x 0) rfl (Nat.zero_le _) (fun y hy => ⟨hup _ _ y hy, hup _ _ y hy⟩) (by rw [up_at, if_pos rfl]; rfl) (by rw [up_at, if_pos rfl]; rfl) (Nat.zero_le _)
    · rw [nI_0] at go
      exact go
    · refine ih (x + 1) cr' dr' _ (by omega) (by omega) (fun y hy => ?_)
      by_cases z : y = x
      · rw [z]
        exact ⟨g2, g3⟩
      · rw [(g1 y z).1, (g1 y z).2]
        exact hc y (by omega)
theorem in_01 : ∀ u, u < 2 → (0 ≤ nI u ∧ nI u ≤ 1) := by decide +kernel
def trN (P : Nat → Nat) (k u : Nat) : Nat := if u = 0 then cp P k else dp P k
theorem s175 {k u : Nat} (ms : MS0 h) (nt : MNt h n P wi) (po : PartsOK n P) (hk : k < n) (hu : u < 2)
    (kk : ∀ h', MB h h' → hI h' 67 0 = 0 → Q (some (.int (nI (trN P k u)))) h') : WPM 175 [.ref 67, .int (nI k), .int (nI u)] h Q := by
  have hn := po.1
  have q1 := thing_t hk hn
  have q2 := in_01 u hu
  have mb : MB h (sI h 67 0 0) := MO.rf.sI67 0 rfl
  have c1 : (nI k).toNatClampNeg = k := nI_clamp (by omega)
  have i1 : inb (nI k) 14 = true := inb_nI (by omega) (by decide)
  have h145 := fun Q : Option Value → AH → Prop => s145 (Q := Q) ms 0 (Or.inl rfl)
  have hue : (nI u = 0) ↔ u = 0 := by
    have := nI_eq (a := u) (b := 0) (by omega) (by decide)
    exact this
  rw [we175]
  simp only [w175_a, ms, s169 ms, nt.1, if_pos q1, s150, if_pos q2, mz, h145, zz]
  have go := tr_out (Q := Q) (h := sI h 67 0 0) (u := nI u) ms nt po hk (fun cr dr y4 hc => ?_) (k + 1) 0 (hI h 77) (hI h 78) (.retAddr 0) (by omega) (Nat.zero_le _) (fun y hy => absurd hy (Nat.not_lt_zero _))
  · have e0 : TrH (sI h 67 0 0) (hI h 77) (hI h 78) = sI h 67 0 0 := by
      unfold TrH
      have h1 := setI_id (sI h 67 0 0) 77
      have h2 := setI_id (sI h 67 0 0) 78
      have e1 : hI (sI h 67 0 0) 77 = hI h 77 := rfl
      have e2 : hI (sI h 67 0 0) 78 = hI h 78 := rfl
      rw [e1] at h1
      rw [e2] at h2
      rw [h1, h2]
    rw [e0, nI_0] at go
    exact go
  · have hr := TrH_r (sI h 67 0 0) cr dr
    obtain ⟨g1, g2⟩ := hc k (by omega)
    have mb2 : MB h (TrH (sI h 67 0 0) cr dr) := (mb.rI cr (Or.inr (Or.inr (Or.inl rfl)))).rI dr (Or.inr (Or.inr (Or.inr rfl)))
    by_cases q : u = 0
    · have hu0 := hue.mpr q
      simp only [w175_c, hr, hs_sI, ms, hu0, c1, i1, g1, zz]
      have := kk _ mb2 rfl
      unfold trN at this
      rw [if_pos q] at this
      exact this
    · simp only [w175_c, hr, hs_sI, ms, hue, q, c1, i1, g2, zz]
      have := kk _ mb2 rfl
      unfold trN at this
      rw [if_neg q] at this
      exact this
theorem s175f {x v : Int32} (ms : MS0 h) (h72 : hI h 72 0 = nI n) (hn : n ≤ 14) (hq : ¬ ((0 ≤ x ∧ x < nI n) ∧ 0 ≤ v ∧ v ≤ 1)) : WPM 175 [.ref 67, .int x, .int v] h Q ↔ Q (some (.int 0)) (sI h 67 0 1) := by
  have h145 := fun Q : Option Value → AH → Prop => s145 (Q := Q) ms 1 (Or.inr rfl)
  rw [we175]
  by_cases q1 : (0 : Int32) ≤ x ∧ x ≤ nI n - 1
  · by_cases q2 : 0 ≤ v ∧ v ≤ 1
    · refine absurd ⟨?_, q2⟩ hq
      exact Decidable.byContradiction fun z => thing_f hn z q1
    · simp only [w175_a, ms, s169 ms, h72, if_pos q1, s150, if_neg q2, mz, h145, zz]
  · simp only [w175_a, ms, s169 ms, h72, if_neg q1, mz, h145, zz]
end Tr

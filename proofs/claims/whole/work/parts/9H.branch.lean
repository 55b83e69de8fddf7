/-! ===== the reference's branch ===== -/
def BrH (h : AH) (br so : Nat → Int32) : AH := setI (setI h 75 br) 76 so
theorem BrH_r (h : AH) : ∀ br so, hT (BrH h br so) = hT h ∧ hL (BrH h br so) = hL h ∧ hR (BrH h br so) = hR h ∧ hI (BrH h br so) 75 = br ∧ hI (BrH h br so) 76 = so ∧ hI (BrH h br so) 70 = hI h 70 ∧ hI (BrH h br so) 72 = hI h 72 ∧ (∀ k v, sI (BrH h br so) 75 k v = BrH h (va_up br k v) so) ∧ ∀ k v, sI (BrH h br so) 76 k v = BrH h br (va_up so k v) := by
  intro br so
  refine ⟨rfl, rfl, rfl, rfl, rfl, rfl, rfl, fun k v => ?_, fun k v => sI_setI _ _ _ _ _⟩
  unfold BrH
  rw [sI_setI_o (by decide), sI_setI]
theorem insF_ge {g : Nat → Nat} {m v c : Nat} (hg : ∀ i, i < m → c ≤ g i) (hv : c ≤ v) : ∀ i, i < m + 1 → c ≤ insF g m v i := by
  intro i hi
  have hp := ipos_le (g := g) (v := v) m
  unfold insF
  split
  · exact hg i (by omega)
  · split
    · exact hv
    · exact hg (i - 1) (by omega)
theorem srt_ge {P br : Nat → Nat} {k c : Nat} : ∀ m, (∀ p, p < m → c ≤ br p) → ∀ i, i < (srt P br k m).2 → c ≤ (srt P br k m).1 i := by
  intro m
  induction m with
  | zero => exact fun _ i hi => absurd hi (Nat.not_lt_zero _)
  | succ m ih =>
    intro hb i hi
    unfold srt at hi ⊢
    by_cases q : (P k).testBit m = true
    · rw [if_pos q] at hi ⊢
      exact insF_ge (ih (fun p hp => hb p (by omega))) (hb m (by omega)) i hi
    · rw [if_neg q] at hi ⊢
      exact ih (fun p hp => hb p (by omega)) i hi
theorem mxF_ge {g : Nat → Nat} {a0 : Nat} : ∀ m, a0 ≤ mxF g a0 m := by
  intro m
  induction m with
  | zero => exact Nat.le_refl _
  | succ m ih =>
    show a0 ≤ max (mxF g a0 m) (g m + m)
    omega
theorem brc_ge (ap : Bool) (P : Nat → Nat) (k : Nat) : 1 ≤ brc ap P k := by
  rw [brc_eq]
  unfold brF
  refine Nat.le_trans ?_ (mxF_ge _)
  split
  · exact Nat.le_refl _
  · split <;> omega
theorem mxF_01 {g : Nat → Nat} (hg : 1 ≤ g 0) : ∀ m, 0 < m → mxF g 0 m = mxF g 1 m := by
  intro m
  induction m with
  | zero => exact fun h => absurd h (Nat.lt_irrefl _)
  | succ m ih =>
    intro _
    show max (mxF g 0 m) (g m + m) = max (mxF g 1 m) (g m + m)
    rcases Nat.eq_zero_or_pos m with q | q
    · subst q
      show max 0 (g 0 + 0) = max 1 (g 0 + 0)
      omega
    · rw [ih q]
/-- the reference's start of a branch -/
def br0 (ip : Bool) (m : Nat) : Nat := if ip = true ∧ 0 < m then 0 else m + 1
theorem brc_mx {n k : Nat} {P : Nat → Nat} (po : PartsOK n P) (hk : k < n) (ip : Bool) : mxF (srt P (brc (!ip) P) k k).1 (br0 ip (srt P (brc (!ip) P) k k).2) (srt P (brc (!ip) P) k k).2 = brc (!ip) P k := by
  rw [brc_eq]
  unfold brF br0
  have hm : (srt P (brc (!ip) P) k k).2 = pc (P k) := by
    rw [srt_len]
    unfold pc
    exact (pcn_big 16 k (P k) (po.2 k hk).1 (by have := po.1; omega)).symm
  have hge := srt_ge (P := P) (br := brc (!ip) P) (k := k) (c := 1) k (fun p _ => brc_ge _ P p)
  generalize (srt P (brc (!ip) P) k k).2 = m at hm hge ⊢
  rcases Nat.eq_zero_or_pos m with q | q
  · rw [if_neg (fun z => by have := z.2; omega), if_pos q, q]
  · cases ip with
    | true =>
      rw [if_pos ⟨rfl, q⟩, if_neg (by omega)]
      simp only [Bool.not_true, Bool.false_eq_true, if_false]
      exact mxF_01 (hge 0 q) m q
    | false =>
      rw [if_neg (fun z => by cases z.1), if_neg (by omega)]
      simp only [Bool.not_false, if_true]
      rw [hm]
section Br
variable {h : AH} {n wi : Nat} {P : Nat → Nat} {Q : Option Value → AH → Prop}
/-- putting one in -/
theorem br_ins {k m d v : Nat} {ip : Int32} {g : Nat → Nat} {br : Nat → Int32} (ms : MS0 h) (hd : d < 14) (hm : m < 6) (hk : k < 14) (hv : br d = nI v) (hv9 : v < 2 ^ 31) (hg9 : ∀ x, x < m → g x < 2 ^ 31)
    (kk : ∀ so y, (∀ x, x < m + 1 → so x = nI (insF g m v x)) → WP 173 17 [.ref 67, .int ip, .int (nI k), .int (nI (m + 1)), .int (nI (d + 1)), y] [] (BrH h br so) Q) :
    ∀ i so, i ≤ m → (∀ x, x < i → so x = nI (g x)) → (∀ x, i < x → x ≤ m → so x = nI (g (x - 1))) → ipos g v m = ipos g v i → WP 173 43 [.ref 67, .int ip, .int (nI k), .int (nI m), .int (nI d), .int (nI i)] [] (BrH h br so) Q := by
  have hr := BrH_r h
  have c1 : (nI d).toNatClampNeg = d := nI_clamp (by omega)
  have i1 : inb (nI d) 14 = true := inb_nI hd (by decide)
  have fin : ∀ i so, i ≤ m → (∀ x, x < i → so x = nI (g x)) → (∀ x, i < x → x ≤ m → so x = nI (g (x - 1))) → ipos g v m = i → ∀ x, x < m + 1 → va_up so i (nI v) x = nI (insF g m v x) := fun i so hi h1 h2 h3 x hx => by
    rw [up_at]
    unfold insF
    rw [h3]
    by_cases q : x < i
    · rw [if_neg (by omega), if_pos q]
      exact h1 x q
    · rw [if_neg q]
      by_cases q2 : x = i
      · rw [if_pos q2, if_pos q2]
      · rw [if_neg q2, if_neg q2]
        exact h2 x (by omega) (by omega)
  intro i
  induction i with
  | zero =>
    intro so hi h1 h2 h3
    have hle : nI 0 ≤ 0 := by decide +kernel
    have c0 : (nI 0).toNatClampNeg = 0 := by decide +kernel
    have i0 : inb (nI 0) 6 = true := by decide +kernel
    rw [w173_43]
    simp only [w173_a, w173_b, hle, hr, ms, c0, i0, c1, i1, hv, zz, nI_1]
    exact kk _ _ (fin 0 so (Nat.zero_le _) h1 h2 h3)
  | succ i ih =>
    intro so hi h1 h2 h3
    have hle : ¬ nI (i + 1) ≤ 0 := nI_ge (a := 0) (by omega) (by omega)
    have e1 : nI (i + 1) - 1 = nI i := nI_pred i
    have e2 : nI (i + 1) + (-1) = nI i := pk_m1 i
    have c2 : (nI i).toNatClampNeg = i := nI_clamp (by omega)
    have i2 : inb (nI i) 6 = true := inb_nI (by omega) (by decide)
    have c3 : (nI (i + 1)).toNatClampNeg = i + 1 := nI_clamp (by omega)
    have i3 : inb (nI (i + 1)) 6 = true := inb_nI (by omega) (by decide)
    have hs := h1 i (by omega)
    have hcmp : (nI v ≤ nI (g i)) ↔ v ≤ g i := nI_leI hv9 (hg9 i (by omega))
    have hip : ipos g v (i + 1) = if g i < v then ipos g v i else i + 1 := rfl
    rw [w173_43]
    by_cases q : v ≤ g i
    · rw [if_neg (by omega)] at hip
      simp only [w173_a, w173_b, hle, hr, ms, e1, c2, i2, c3, i3, c1, i1, hs, hv, hcmp, q, zz, nI_1]
      exact kk _ _ (fin (i + 1) so hi h1 h2 (by rw [h3, hip]))
    · rw [if_pos (by omega)] at hip
      simp only [w173_a, w173_b, hle, hr, ms, e1, e2, c2, i2, c3, i3, c1, i1, hs, hv, hcmp, q, zz]
      refine ih _ (by omega) (fun x hx => ?_) (fun x hx1 hx2 => ?_) (by rw [h3, hip])
      · rw [up_at, if_neg (by omega)]
        exact h1 x (by omega)
      · rw [up_at]
        by_cases q2 : x = i + 1
        · rw [if_pos q2, q2]
          rfl
        · rw [if_neg q2]
          exact h2 x (by omega) hx2
/-- the parts of k -/
theorem br_parts {k : Nat} {ip : Int32} {f : Nat → Nat} {br : Nat → Int32} (ms : MS0 h) (nt : MNt h n P wi) (po : PartsOK n P) (hk : k < n) (hb : ∀ d, d < k → br d = nI (f d) ∧ f d < 1000)
    (kk : ∀ so y, (∀ x, x < (srt P f k k).2 → so x = nI ((srt P f k k).1 x)) → WP 173 112 [.ref 67, .int ip, .int (nI k), .int (nI (srt P f k k).2), .int (nI k), y] [] (BrH h br so) Q) :
    ∀ e d so y, k - d = e → d ≤ k → (∀ x, x < (srt P f k d).2 → so x = nI ((srt P f k d).1 x)) → WP 173 17 [.ref 67, .int ip, .int (nI k), .int (nI (srt P f k d).2), .int (nI d), y] [] (BrH h br so) Q := by
  have hr := BrH_r h
  have hn := po.1
  have m0 := nt.2.2 k hk
  have hPk := s_lt hn (po.lt hk)
  have c1 : (nI k).toNatClampNeg = k := nI_clamp (by omega)
  have i1 : inb (nI k) 28 = true := inb_nI (by omega) (by decide)
  intro e
  induction e with
  | zero =>
    intro d so y he hd hso
    have hdk : d = k := by omega
    have hle : nI k ≤ nI d := nI_le (by omega) (by omega)
    have k' := kk so y (by rw [← hdk] at hso ⊢; exact hso)
    rw [w173_17]
    rw [hdk] at hle ⊢
    simp only [w173_a, w173_b, hle, hr, ms, zz] at k' ⊢
    exact k'
  | succ e ih =>
    intro d so y he hd hso
    have hdk : d < k := by omega
    have hle : ¬ nI k ≤ nI d := nI_ge hdk (by omega)
    have e1 := mtb0 (s := P k) (x := d) (by omega) (by omega)
    have hs : srt P f k (d + 1) = if (P k).testBit d = true then (insF (srt P f k d).1 (srt P f k d).2 (f d), (srt P f k d).2 + 1) else srt P f k d := rfl
    rw [w173_17]
    by_cases q : (P k).testBit d = true
    · rw [if_pos q] at hs
      have hm : (srt P f k d).2 < 6 := by
        rw [srt_len]
        have h1 : pcn (d + 1) (P k) ≤ pc (P k) := pcn_mle _ (by omega)
        have h2 : pcn (d + 1) (P k) = pcn d (P k) + (if (P k).testBit d then 1 else 0) := rfl
        rw [if_pos q] at h2
        have := (po.2 k hk).2
        omega
      simp only [w173_a, w173_b, hle, hr, ms, c1, i1, m0, e1, q, zz]
      refine br_ins ms (by omega) hm (by omega) (hb d hdk).1 (by have := (hb d hdk).2; omega) (fun x hx => ?_) (fun so' y' hso' => ?_) _ so (Nat.le_refl _) hso (fun x h1 h2 => by omega) rfl
      · have := srt_lt (P := P) (br := f) (k := k) (c := 1000) d (fun p hp => (hb p (by omega)).2) x hx
        omega
      · have := ih (d + 1) so' y' (by omega) (by omega)
        rw [hs] at this
        exact this hso'
    · rw [if_neg q] at hs
      simp only [w173_a, w173_b, hle, hr, ms, c1, i1, m0, e1, q, zz, nI_1]
      have := ih (d + 1) so y (by omega) (by omega)
      rw [hs] at this
      exact this hso
/-- the greatest -/
theorem br_max {k m a0 : Nat} {ip : Int32} {g : Nat → Nat} {so : Nat → Int32} (ms : MS0 h) (hk : k < 14) (hm : m ≤ 6) (hso : ∀ x, x < m → so x = nI (g x)) (hg : ∀ x, x < m → g x < 1000) (ha0 : a0 < 1000) {br0' : Nat → Int32}
    (kk : ∀ br y4 y5, (∀ x, x ≠ k → br x = br0' x) → br k = nI (mxF g a0 m) → WP 173 2 [.ref 67, .int ip, .int (nI (k + 1)), .int (nI m), y4, y5] [] (BrH h br so) Q) :
    ∀ e i br y5, m - i = e → i ≤ m → (∀ x, x ≠ k → br x = br0' x) → br k = nI (mxF g a0 i) → WP 173 136 [.ref 67, .int ip, .int (nI k), .int (nI m), .int (nI i), y5] [] (BrH h br so) Q := by
  have hr := BrH_r h
  have c1 : (nI k).toNatClampNeg = k := nI_clamp (by omega)
  have i1 : inb (nI k) 14 = true := inb_nI hk (by decide)
  have hmx : ∀ i, i ≤ m → mxF g a0 i < 2000 := fun i hi => by
    have := mxF_le (g := g) (a0 := a0) (c := 1500) i (by omega) (fun x hx => by have := hg x (by omega); omega)
    omega
  intro e
  induction e with
  | zero =>
    intro i br y5 he hi hb hk'
    have hle : nI m ≤ nI i := nI_le (by omega) (by omega)
    have him : i = m := by omega
    rw [him] at hk'
    rw [w173_136]
    simp only [w173_b, w173_c, hle, zz, nI_1]
    exact kk br _ _ hb hk'
  | succ e ih =>
    intro i br y5 he hi hb hk'
    have him : i < m := by omega
    have hle : ¬ nI m ≤ nI i := nI_ge him (by omega)
    have c2 : (nI i).toNatClampNeg = i := nI_clamp (by omega)
    have i2 : inb (nI i) 6 = true := inb_nI (by omega) (by decide)
    have hgi := hg i him
    have hmi := hmx i hi
    have hcmp : (nI (g i + i) ≤ nI (mxF g a0 i)) ↔ g i + i ≤ mxF g a0 i := nI_leI (by omega) (by omega)
    have hmx' : mxF g a0 (i + 1) = max (mxF g a0 i) (g i + i) := rfl
    rw [w173_136]
    by_cases q : g i + i ≤ mxF g a0 i
    · simp only [w173_b, w173_c, hle, hr, ms, c1, i1, c2, i2, hso i him, hk', nI_add, hcmp, q, zz, nI_1]
      refine ih (i + 1) _ y5 (by omega) (by omega) (fun x hx => by rw [up_at, if_neg hx]; exact hb x hx) ?_
      rw [up_at, if_pos rfl, hmx', Nat.max_eq_left q]
    · simp only [w173_b, w173_c, hle, hr, ms, c1, i1, c2, i2, hso i him, hk', nI_add, hcmp, q, zz, nI_1]
      refine ih (i + 1) _ y5 (by omega) (by omega) (fun x hx => by rw [up_at, if_neg hx]; exact hb x hx) ?_
      rw [up_at, if_pos rfl, hmx', Nat.max_eq_right (by omega)]
theorem br_out {ip : Bool} (ms : MS0 h) (nt : MNt h n P wi) (po : PartsOK n P)
    (kk : ∀ br so, (∀ x, x < n → br x = nI (brc (!ip) P x)) → Q none (BrH h br so)) :
    ∀ e k br so y3 y4 y5, n - k = e → k ≤ n → (∀ x, x < k → br x = nI (brc (!ip) P x)) → WP 173 2 [.ref 67, .int (if ip = true then 1 else 0), .int (nI k), y3, y4, y5] [] (BrH h br so) Q := by
  have hr := BrH_r h
  have hn := po.1
  have n0 := nt.1
  intro e
  induction e with
  | zero =>
    intro k br so y3 y4 y5 he hk hb
    have hle : nI n ≤ nI k := nI_le (by omega) (by omega)
    rw [w173_2]
    simp only [w173_a, w173_c, hr, ms, mz, n0, hle, zz]
    exact kk br so (fun x hx => hb x (by omega))
  | succ e ih =>
    intro k br so y3 y4 y5 he hk hb
    have hkn : k < n := by omega
    have hle : ¬ nI n ≤ nI k := nI_ge hkn (by omega)
    have hb9 : ∀ p, p < n → brc (!ip) P p < 1000 := fun p hp => by
      have := brc_le (ap := !ip) po p hp
      omega
    rw [w173_2]
    simp only [w173_a, hr, ms, mz, n0, hle, zz]
    have go := br_parts (Q := Q) (ip := if ip = true then 1 else 0) (k := k) (f := brc (!ip) P) (br := br) ms nt po hkn (fun d hd => ⟨hb d hd, hb9 d (by omega)⟩) (fun so' y' hso' => ?_) k 0 so y5 rfl (Nat.zero_le _) (fun x hx => absurd hx (Nat.not_lt_zero _))
    · have e0 : (srt P (brc (!ip) P) k 0).2 = 0 := rfl
      rw [e0, nI_0] at go
      exact go
    · have hm6 : (srt P (brc (!ip) P) k k).2 ≤ 6 := by
        rw [srt_len]
        have h1 : pcn k (P k) ≤ pc (P k) := pcn_mle _ (by omega)
        have := (po.2 k hkn).2
        omega
      have hgs := srt_lt (P := P) (br := brc (!ip) P) (k := k) (c := 1000) k (fun p hp => hb9 p (by omega))
      have hmx := brc_mx po hkn ip
      have c1 : (nI k).toNatClampNeg = k := nI_clamp (by omega)
      have i1 : inb (nI k) 14 = true := inb_nI (by omega) (by decide)
      have h0 : br0 ip (srt P (brc (!ip) P) k k).2 < 1000 := by
        unfold br0
        split <;> omega
      have go2 := fun br' (hbr : ∀ x, x ≠ k → br' x = br x) (hv : br' k = nI (br0 ip (srt P (brc (!ip) P) k k).2)) => br_max (Q := Q) (h := h) (ip := if ip = true then 1 else 0) (so := so') (br0' := br) ms (show k < 14 by omega) hm6 hso' hgs h0 (fun br'' z4 z5 g1 g2 => ih (k + 1) br'' so' _ z4 z5 (by omega) (by omega) (fun x hx => by
        by_cases z : x = k
        · rw [z, g2, hmx]
        · rw [g1 x z]
          exact hb x (by omega))) _ 0 br' y' rfl (Nat.zero_le _) hbr hv
      generalize (srt P (brc (!ip) P) k k).2 = m at hm6 h0 go2 ⊢
      have hup : ∀ v x, x ≠ k → va_up br k v x = br x := fun v x hx => by rw [up_at, if_neg hx]
      have hme : (nI m ≤ 0) ↔ m ≤ 0 := by
        have := nI_leI (a := m) (b := 0) (by omega) (by decide)
        exact this
      rw [nI_0] at go2
      cases ip with
      | true =>
        by_cases q : m ≤ 0
        · have e1 : br0 true m = m + 1 := by unfold br0; rw [if_neg (fun z => by have := z.2; omega)]
          simp only [w173_b, hr, ms, mz, c1, i1, hme, q, nI_1, zz, if_true]
          simp only [if_true] at go2
          exact go2 _ (hup _) (by rw [up_at, if_pos rfl, e1])
        · have e1 : br0 true m = 0 := by unfold br0; rw [if_pos ⟨rfl, by omega⟩]
          simp only [w173_b, hr, ms, mz, c1, i1, hme, q, nI_1, zz, if_true]
          simp only [if_true] at go2
          exact go2 _ (hup _) (by rw [up_at, if_pos rfl, e1]; exact nI_0.symm)
      | false =>
        have e1 : br0 false m = m + 1 := by unfold br0; rw [if_neg (fun z => by cases z.1)]
        simp only [w173_b, hr, ms, mz, c1, i1, nI_1, zz, if_false]
        simp only [Bool.false_eq_true, if_false] at go2
        exact go2 _ (hup _) (by rw [up_at, if_pos rfl, e1])
theorem s173 {ip : Bool} (ms : MS0 h) (nt : MNt h n P wi) (po : PartsOK n P)
    (kk : ∀ br so, (∀ x, x < n → br x = nI (brc (!ip) P x)) → Q none (BrH h br so)) : WPM 173 [.ref 67, .int (if ip = true then 1 else 0)] h Q := by
  rw [we173]
  simp only [w173_a]
  have := br_out (Q := Q) (ip := ip) ms nt po kk n 0 (hI h 75) (hI h 76) (.retAddr 0) (.retAddr 0) (.retAddr 0) rfl (Nat.zero_le _) (fun x hx => absurd hx (Nat.not_lt_zero _))
  have e0 : BrH h (hI h 75) (hI h 76) = h := by
    unfold BrH
    rw [setI_id, setI_id]
  rw [e0, nI_0] at this
  exact this
def mbA (a : Nat) : Prop := a = 75 ∨ a = 76 ∨ a = 77 ∨ a = 78
def mbS (j : Nat) : Prop := j = 0
abbrev MB (h h' : AH) : Prop := MO mbA mbS nP nP h h'
theorem s174 {ip : Bool} {k : Nat} (ms : MS0 h) (nt : MNt h n P wi) (po : PartsOK n P) (hk : k < n)
    (kk : ∀ h', MB h h' → Q (some (.int (nI (brc (!ip) P k)))) h') : WPM 174 [.ref 67, .int (nI k), .int (if ip = true then 1 else 0)] h Q := by
  have hn := po.1
  have q := thing_t hk hn
  have mb : MB h (sI h 67 0 0) := MO.rf.sI67 0 rfl
  have ms0 := mb.ms ms
  have nt0 : MNt (sI h 67 0 0) n P wi := nt
  have c1 : (nI k).toNatClampNeg = k := nI_clamp (by omega)
  have i1 : inb (nI k) 14 = true := inb_nI (by omega) (by decide)
  rw [we174]
  simp only [w174, ms, mz, hs_sI, s169 ms0, e72z, nt.1, if_pos q, zz]
  refine s173 ms0 nt0 po fun br so hbr => ?_
  have hr := BrH_r (sI h 67 0 0) br so
  simp only [w174, hr, hs_sI, ms, c1, i1, hbr k hk, zz]
  exact kk _ ((mb.rI br (Or.inl rfl)).rI so (Or.inr (Or.inl rfl)))
theorem s174f {v u : Int32} (ms : MS0 h) (h72 : hI h 72 0 = nI n) (hn : n ≤ 14) (hq : ¬ (0 ≤ v ∧ v < nI n)) : WPM 174 [.ref 67, .int v, .int u] h Q ↔ Q (some (.int (-1))) (sI h 67 0 0) := by
  have mb : MB h (sI h 67 0 0) := MO.rf.sI67 0 rfl
  rw [we174]
  simp only [w174, ms, mz, hs_sI, s169 (mb.ms ms), e72z, h72, if_neg (thing_f hn hq), zz]
end Br

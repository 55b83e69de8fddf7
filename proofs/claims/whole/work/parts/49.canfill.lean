/-! ===== Reach.canFill, setsWith ===== -/
theorem Rch.cap {L : List Act} {n c c' : Nat} {s : Nat} (hn : n ≤ 14) (hc : n ≤ c) (h : Rch L (2 ^ n) c' s) : Rch L (2 ^ n) c s := by
  refine Rch.in (fun s => Rch L (2 ^ n) c s) (Rch.z L _ c) (fun s t a h1 h2 h3 => ?_) s h
  have := aft_lt h3
  exact h1.st h2 (aft_down h3 (Nat.le_trans (pc_lt this.1 (by omega)) hc))
theorem LvOK.any {L : List Act} {n b c : Nat} {l : Nat → Nat} (hn : n ≤ 14) (hb : b ≤ 14) (h : LvOK L (2 ^ n) b l) (hcb : min c n ≤ b) (hc : c < 99) {x : Nat} (hx : x < 2 ^ n) : l x ≤ c ↔ Rch L (2 ^ n) c x := by
  rcases Nat.lt_or_ge b c with q | q
  · have h1 := (h x hx).1 b (Nat.le_refl _)
    have h2 := (h x hx).2
    constructor
    · intro z
      exact (h1.mp (by omega)).mono (by omega)
    · intro z
      have := h1.mpr (z.cap hn (by omega))
      omega
  · exact (h x hx).1 c q
theorem s54 {h : AH} {B M kn n w c f : Nat} {P : Nat → Nat} {Q : Option Value → AH → Prop} (cw : CW B M h) (hkn : kn = 4 ∨ kn = 15) (hp : NetP h kn n P) (po : PartsOK n P) (hw : w < 8) (rc : RC h n P) (hc : c ≤ 14) (hf : f < 2 ^ n)
    (k : ∀ h' r, (r = 1 ∧ Rch (actsOf n P (w % 4)) (2 ^ n) c f ∨ r = 0 ∧ ¬ Rch (actsOf n P (w % 4)) (2 ^ n) c f) → CW B M h' → RC h' n P → CFr (trI h) (fun _ => False) h h' → Q (some (.int r)) h') : WPM 54 [.ref 47, .ref kn, .int (nI w), .int (nI c), .int (nI f)] h Q := by
  have hn14 := po.1
  have hm : 2 ^ n ∈ sizes := pow_sizes (by omega)
  have hN0 : 0 < 2 ^ n := Nat.pow_pos (by decide)
  have hN9 : 2 ^ n ≤ 16384 := p2_le (n := 14) hn14
  have h47 : hT h 47 = 7 := by simp only [cw.1]
  have d := cw.2.1
  rw [we54]
  simp only [w54, h47]
  refine s56 cw (by omega) hp po hw rc fun h1 b cw1 cf1 hA1 e6 hb rk er => ?_
  have h47' : hT h1 47 = 7 := by simp only [cw1.1]
  have hp1 := hp.cfr cf1 cw cw1 hkn (by have := d.2.2.2.2.1; unfold trI actA; omega) (by have := d.2.2.2.2.1; unfold trI actA; omega)
  have hkt : hT h1 kn = 4 := hp1.1.1
  have hmin : (if nI n < nI c then nI n else nI c) = nI (min c n) := by
    by_cases q : n < c
    · rw [if_pos (nI_lt q (by omega)), Nat.min_eq_right (by omega)]
    · rw [if_neg (nI_nlt (by omega) (by omega)), Nat.min_eq_left (by omega)]
  simp only [w54, h47', hkt, hp1.2.1, hmin, Option.toList_none, List.nil_append]
  refine s59 cw1 hA1 rk (po.acts _) ⟨hN0, hN9⟩ hm (by omega) (by omega) fun h2 cw2 hA2 rk2 cf2 er2 ei2 => ?_
  obtain ⟨l, ⟨r5, rL, rv⟩, hok⟩ := rk2.2
  have h47'' : hT h2 47 = 7 := by simp only [cw2.1]
  have d2 := cw2.2.1
  have lt := d2.2.1.2.2.2.2.1
  have ll := d2.2.2.1.2.2.2.2.1
  have hcl : (nI f).toNatClampNeg = f := nI_clamp (by omega)
  have hib : inb (nI f) (hL h2 (hR h2 47 2)) = true := inb_nI (by omega) (by omega)
  have hz : ¬ nI f < 0 := nI_nlt (b := 0) (Nat.zero_le _) (by omega)
  have hlN : ¬ nI (2 ^ n) ≤ nI f := nI_ge hf (by omega)
  have hv := rv f hf
  have hlv := hok.any hn14 (by omega) (c := c) (by omega) (by omega) hf
  have rcF : RC h2 n P := Or.inr ⟨w % 4, max b (min c n), Nat.mod_lt _ (by decide), by omega, by rw [ei2 6 (by decide) (by decide)]; exact e6, rk2⟩
  have cfF : CFr (trI h) (fun _ => False) h h2 := cf1.trans cf2 (fun a ha q => by unfold rcI at q; unfold trI; omega) (fun _ _ q => q)
  by_cases q : l f ≤ c
  · have hq : ¬ nI c < nI (l f) := nI_nlt q (by omega)
    simp only [w54, h47'', r5, hz, hlN, lt, hcl, hib, hv.1, hq, Option.toList_none, List.nil_append, true_or, or_true, true_implies, false_implies, not_true_eq_false, not_false_eq_true, true_and, and_true]
    exact k h2 1 (Or.inl ⟨rfl, hlv.mp q⟩) cw2 rcF cfF
  · have hq : nI c < nI (l f) := nI_lt (by omega) (by omega)
    simp only [w54, h47'', r5, hz, hlN, lt, hcl, hib, hv.1, hq, Option.toList_none, List.nil_append, true_or, or_true, true_implies, false_implies, not_true_eq_false, not_false_eq_true, true_and, and_true]
    exact k h2 0 (Or.inr ⟨rfl, fun z => q (hlv.mpr z)⟩) cw2 rcF cfF

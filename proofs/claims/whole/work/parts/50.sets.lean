/-! ===== Reach.setsWith ===== -/
def cntB (f : Nat → Bool) : Nat → Nat
  | 0 => 0
  | x + 1 => cntB f x + (if f x = true then 1 else 0)
theorem cntB_le (f : Nat → Bool) : ∀ x, cntB f x ≤ x
  | 0 => Nat.le_refl _
  | x + 1 => by
    have := cntB_le f x
    show cntB f x + (if f x = true then 1 else 0) ≤ x + 1
    split <;> omega
theorem cntB_congr {f g : Nat → Bool} : ∀ x, (∀ y, y < x → f y = g y) → cntB f x = cntB g x
  | 0, _ => rfl
  | x + 1, h => by
    show cntB f x + (if f x = true then 1 else 0) = cntB g x + (if g x = true then 1 else 0)
    rw [cntB_congr x (fun y hy => h y (by omega)), h x (by omega)]
/-- r is how many of N sets hold p -/
def HowMany (p : Nat → Prop) (N : Nat) (r : Int32) : Prop := ∃ f, (∀ x, x < N → (f x = true ↔ p x)) ∧ r = nI (cntB f N)
theorem HowMany.uniq {p : Nat → Prop} {N : Nat} {r r' : Int32} (h : HowMany p N r) (h' : HowMany p N r') : r = r' := by
  obtain ⟨f, h1, rfl⟩ := h
  obtain ⟨g, h2, rfl⟩ := h'
  rw [cntB_congr N fun y hy => ?_]
  have a := h1 y hy
  have b := h2 y hy
  cases hf : f y <;> cases hg : g y <;> simp_all
theorem sets_l {h : AH} {B M N c : Nat} {kn : Nat} {w : Int32} {l : Nat → Nat} {Q : Option Value → AH → Prop} (cw : CW B M h) (rl : RLv h N l) (hN : N ≤ 16384) (hc : c ≤ 14) (k : Q (some (.int (nI (cntB (fun x => decide (l x ≤ c)) N)))) h) :
    ∀ d x, N - x = d → x ≤ N → WP 53 24 [.ref 47, .ref kn, .int w, .int (nI c), .int (nI (cntB (fun x => decide (l x ≤ c)) x)), .int (nI x)] [] h Q := by
  have h47 : hT h 47 = 7 := by simp only [cw.1]
  have d0 := cw.2.1
  have lt := d0.2.1.2.2.2.2.1
  have ll := d0.2.2.1.2.2.2.2.1
  obtain ⟨r5, rL, rv⟩ := rl
  intro d
  induction d with
  | zero =>
    intro x hd hx
    have hle : nI N ≤ nI x := nI_le (by omega) (by omega)
    have hxN : x = N := by omega
    subst hxN
    rw [w53_24]
    simp only [w53, h47, r5, hle, true_implies, not_true_eq_false, false_implies, and_true]
    exact k
  | succ d ih =>
    intro x hd hx
    have hle : ¬ nI N ≤ nI x := nI_ge (by omega) (by omega)
    have hcl : (nI x).toNatClampNeg = x := nI_clamp (by omega)
    have hib : inb (nI x) (hL h (hR h 47 2)) = true := inb_nI (by omega) (by omega)
    have hv := rv x (by omega)
    have hs : cntB (fun x => decide (l x ≤ c)) (x + 1) = cntB (fun x => decide (l x ≤ c)) x + (if decide (l x ≤ c) = true then 1 else 0) := rfl
    have hi := ih (x + 1) (by omega) (by omega)
    rw [hs] at hi
    rw [w53_24]
    by_cases q : l x ≤ c
    · have hq : ¬ nI c < nI (l x) := nI_nlt q (by omega)
      simp only [w53, h47, r5, hle, lt, hcl, hib, hv.1, hq, true_or, true_implies, false_implies, not_true_eq_false, not_false_eq_true, true_and, and_true, nI_1]
      rw [if_pos (decide_eq_true q)] at hi
      exact hi
    · have hq : nI c < nI (l x) := nI_lt (by omega) (by omega)
      simp only [w53, h47, r5, hle, lt, hcl, hib, hv.1, hq, true_or, true_implies, false_implies, not_true_eq_false, not_false_eq_true, true_and, and_true, nI_1]
      rw [if_neg (fun z => q (of_decide_eq_true z))] at hi
      exact hi
theorem s53 {h : AH} {B M kn n w c : Nat} {P : Nat → Nat} {Q : Option Value → AH → Prop} (cw : CW B M h) (hkn : kn = 4 ∨ kn = 15) (hp : NetP h kn n P) (po : PartsOK n P) (hw : w < 8) (rc : RC h n P) (hc : c ≤ 14)
    (k : ∀ h' r, HowMany (fun x => Rch (actsOf n P (w % 4)) (2 ^ n) c x) (2 ^ n) r → CW B M h' → RC h' n P → CFr (trI h) (fun _ => False) h h' → Q (some (.int r)) h') : WPM 53 [.ref 47, .ref kn, .int (nI w), .int (nI c)] h Q := by
  have hn14 := po.1
  have hm : 2 ^ n ∈ sizes := pow_sizes (by omega)
  have hN0 : 0 < 2 ^ n := Nat.pow_pos (by decide)
  have hN9 : 2 ^ n ≤ 16384 := p2_le (n := 14) hn14
  have h47 : hT h 47 = 7 := by simp only [cw.1]
  have d := cw.2.1
  rw [we53]
  simp only [w53, h47]
  refine s56 cw (by omega) hp po hw rc fun h1 b cw1 cf1 hA1 e6 hb rk er => ?_
  have h47' : hT h1 47 = 7 := by simp only [cw1.1]
  have hp1 := hp.cfr cf1 cw cw1 hkn (by have := d.2.2.2.2.1; unfold trI actA; omega) (by have := d.2.2.2.2.1; unfold trI actA; omega)
  have hkt : hT h1 kn = 4 := hp1.1.1
  have hmin : (if nI n < nI c then nI n else nI c) = nI (min c n) := by
    by_cases q : n < c
    · rw [if_pos (nI_lt q (by omega)), Nat.min_eq_right (by omega)]
    · rw [if_neg (nI_nlt (by omega) (by omega)), Nat.min_eq_left (by omega)]
  simp only [w53, h47', hkt, hp1.2.1, hmin, Option.toList_none, List.nil_append]
  refine s59 cw1 hA1 rk (po.acts _) ⟨hN0, hN9⟩ hm (by omega) (by omega) fun h2 cw2 hA2 rk2 cf2 er2 ei2 => ?_
  obtain ⟨l, rl, hok⟩ := rk2.2
  have rcF : RC h2 n P := Or.inr ⟨w % 4, max b (min c n), Nat.mod_lt _ (by decide), by omega, by rw [ei2 6 (by decide) (by decide)]; exact e6, rk2⟩
  have cfF : CFr (trI h) (fun _ => False) h h2 := cf1.trans cf2 (fun a ha q => by unfold rcI at q; unfold trI; omega) (fun _ _ q => q)
  simp only [w53, Option.toList_none, List.nil_append]
  exact sets_l cw2 rl hN9 hc (k h2 _ ⟨_, fun x hx => by rw [decide_eq_true_iff]; exact hok.any hn14 (by omega) (by omega) (by omega) hx, rfl⟩ cw2 rcF cfF) _ 0 rfl (Nat.zero_le _)

/-! ===== a NET: what follows of its parts, in numbers; the heap of a NET ===== -/
/-- tables: each value out of those before -/
def tb (F : (Nat → Nat) → Nat → Nat) : Nat → Nat → Nat
  | 0 => fun _ => 0
  | k + 1 => va_up (tb F k) k (F (tb F k) k)
def tv (F : (Nat → Nat) → Nat → Nat) (k : Nat) : Nat := tb F (k + 1) k
theorem tb_lt {F : (Nat → Nat) → Nat → Nat} : ∀ k j, j < k → tb F k j = tv F j := by
  intro k
  induction k with
  | zero => exact fun j hj => absurd hj (Nat.not_lt_zero _)
  | succ k ih =>
    intro j hj
    by_cases q : j = k
    · subst q; rfl
    · show va_up (tb F k) k (F (tb F k) k) j = _
      rw [up_at, if_neg q]
      exact ih j (by omega)
theorem tv_eq {F : (Nat → Nat) → Nat → Nat} (hF : ∀ g g' k, (∀ j, j < k → g j = g' j) → F g k = F g' k) (k : Nat) : tv F k = F (tv F) k := by
  show va_up (tb F k) k (F (tb F k) k) k = _
  rw [up_at, if_pos rfl]
  exact hF _ _ _ (fun j hj => tb_lt k j hj)
/-- folds over the parts -/
def pf (P : Nat → Nat) (k : Nat) (f : Nat → Nat → Nat) (a0 m : Nat) : Nat := (List.range m).foldl (fun acc p => if (P k).testBit p = true then f acc p else acc) a0
theorem pf_succ {P : Nat → Nat} {k : Nat} {f : Nat → Nat → Nat} {a0 m : Nat} : pf P k f a0 (m + 1) = if (P k).testBit m = true then f (pf P k f a0 m) m else pf P k f a0 m := by
  unfold pf
  rw [List.range_succ, List.foldl_append]
  rfl
theorem pf_congr {P : Nat → Nat} {k : Nat} {f f' : Nat → Nat → Nat} {a0 : Nat} : ∀ m, (∀ acc p, p < m → f acc p = f' acc p) → pf P k f a0 m = pf P k f' a0 m := by
  intro m
  induction m with
  | zero => exact fun _ => rfl
  | succ m ih =>
    intro h
    rw [pf_succ, pf_succ, ih (fun acc p hp => h acc p (by omega)), h _ m (by omega)]
def blF (P : Nat → Nat) (g : Nat → Nat) (k : Nat) : Nat := pf P k (fun acc p => acc ||| g p) (2 ^ k) k
def cpF (P : Nat → Nat) (g : Nat → Nat) (k : Nat) : Nat := pf P k (fun acc p => acc + g p) 1 k
def dpF (P : Nat → Nat) (g : Nat → Nat) (k : Nat) : Nat := pf P k (fun acc p => max acc (g p + 1)) 0 k
def bl (P : Nat → Nat) : Nat → Nat := tv (blF P)
def cp (P : Nat → Nat) : Nat → Nat := tv (cpF P)
def dp (P : Nat → Nat) : Nat → Nat := tv (dpF P)
theorem bl_eq (P : Nat → Nat) (k : Nat) : bl P k = blF P (bl P) k := tv_eq (F := blF P) (fun g g' k h => by unfold blF; exact pf_congr k (fun acc p hp => by rw [h p hp])) k
theorem cp_eq (P : Nat → Nat) (k : Nat) : cp P k = cpF P (cp P) k := tv_eq (F := cpF P) (fun g g' k h => by unfold cpF; exact pf_congr k (fun acc p hp => by rw [h p hp])) k
theorem dp_eq (P : Nat → Nat) (k : Nat) : dp P k = dpF P (dp P) k := tv_eq (F := dpF P) (fun g g' k h => by unfold dpF; exact pf_congr k (fun acc p hp => by rw [h p hp])) k
/-- putting into a falling row -/
def ipos (g : Nat → Nat) (v : Nat) : Nat → Nat
  | 0 => 0
  | i + 1 => if g i < v then ipos g v i else i + 1
def insF (g : Nat → Nat) (m v : Nat) : Nat → Nat := fun x => if x < ipos g v m then g x else if x = ipos g v m then v else g (x - 1)
theorem ipos_le {g : Nat → Nat} {v : Nat} : ∀ m, ipos g v m ≤ m
  | 0 => Nat.le_refl _
  | m + 1 => by
    have := ipos_le (g := g) (v := v) m
    show (if g m < v then ipos g v m else m + 1) ≤ m + 1
    split <;> omega
/-- the sorted branches of the first m parts of k -/
def srt (P : Nat → Nat) (br : Nat → Nat) (k : Nat) : Nat → (Nat → Nat) × Nat
  | 0 => (fun _ => 0, 0)
  | p + 1 => if (P k).testBit p = true then (insF (srt P br k p).1 (srt P br k p).2 (br p), (srt P br k p).2 + 1) else srt P br k p
def mxF (g : Nat → Nat) (a0 : Nat) : Nat → Nat
  | 0 => a0
  | i + 1 => max (mxF g a0 i) (g i + i)
def brF (ap : Bool) (P : Nat → Nat) (br : Nat → Nat) (k : Nat) : Nat := mxF (srt P br k k).1 (if (srt P br k k).2 = 0 then 1 else if ap = true then pc (P k) + 1 else 1) (srt P br k k).2
def brc (ap : Bool) (P : Nat → Nat) : Nat → Nat := tv (brF ap P)
theorem srt_congr {P : Nat → Nat} {br br' : Nat → Nat} {k : Nat} : ∀ m, (∀ p, p < m → br p = br' p) → srt P br k m = srt P br' k m := by
  intro m
  induction m with
  | zero => exact fun _ => rfl
  | succ m ih =>
    intro h
    have e := ih (fun p hp => h p (by omega))
    show (if (P k).testBit m = true then (insF (srt P br k m).1 (srt P br k m).2 (br m), (srt P br k m).2 + 1) else srt P br k m) = (if (P k).testBit m = true then (insF (srt P br' k m).1 (srt P br' k m).2 (br' m), (srt P br' k m).2 + 1) else srt P br' k m)
    rw [e, h m (by omega)]
theorem brc_eq (ap : Bool) (P : Nat → Nat) (k : Nat) : brc ap P k = brF ap P (brc ap P) k := tv_eq (fun g g' k h => by unfold brF; rw [srt_congr k h]) k
theorem srt_len {P : Nat → Nat} {br : Nat → Nat} {k : Nat} : ∀ m, (srt P br k m).2 = pcn m (P k) := by
  intro m
  induction m with
  | zero => rfl
  | succ m ih =>
    show (if (P k).testBit m = true then (insF (srt P br k m).1 (srt P br k m).2 (br m), (srt P br k m).2 + 1) else srt P br k m).2 = pcn m (P k) + if (P k).testBit m = true then 1 else 0
    split
    · show (srt P br k m).2 + 1 = _
      rw [ih]
    · rw [ih, Nat.add_zero]
/-- what is needed of the first m: all below what is wished -/
def ndN (P : Nat → Nat) (wi : Nat) : Nat → Nat
  | 0 => 0
  | k + 1 => if wi.testBit k = true then ndN P wi k ||| bl P k else ndN P wi k
/-- who is made of k, of those from u on -/
def usN (P : Nat → Nat) (nd k : Nat) : Nat → Nat
  | 0 => 0
  | u + 1 => if k < u ∧ (P u).testBit k = true ∧ nd.testBit u = true then usN P nd k u ||| 2 ^ u else usN P nd k u
/-! the heap of a NET -/
def NHp (h : AH) (kn : Nat) (F : Nat → Nat → Int32) : AH := (hT h, hL h, fun a => if kn ≤ a ∧ a ≤ kn + 10 then F (a - kn) else hI h a, hJ h, hR h, hN h, hS h)
def upF (F : Nat → Nat → Int32) (j k : Nat) (v : Int32) : Nat → Nat → Int32 := va_up F j (va_up (F j) k v)
theorem upF_at (F : Nat → Nat → Int32) (j k : Nat) (v : Int32) (j' i : Nat) : upF F j k v j' i = if j' = j ∧ i = k then v else F j' i := by
  unfold upF
  rw [up_at]
  by_cases q : j' = j
  · subst q
    rw [if_pos rfl, up_at]
    by_cases q2 : i = k
    · simp [q2]
    · simp [q2]
  · simp [q]
theorem NHp_I {h : AH} {kn : Nat} {F : Nat → Nat → Int32} {j : Nat} (hj : j ≤ 10) : hI (NHp h kn F) (kn + j) = F j := by
  show (if kn ≤ kn + j ∧ kn + j ≤ kn + 10 then F (kn + j - kn) else hI h (kn + j)) = _
  rw [if_pos ⟨by omega, by omega⟩, Nat.add_sub_cancel_left]
theorem NHp_o {h : AH} {kn : Nat} {F : Nat → Nat → Int32} {a : Nat} (ha : a < kn ∨ kn + 10 < a) : hI (NHp h kn F) a = hI h a := by
  show (if kn ≤ a ∧ a ≤ kn + 10 then F (a - kn) else hI h a) = _
  rw [if_neg (by omega)]
theorem NHp_s {h : AH} {kn : Nat} {F : Nat → Nat → Int32} {j : Nat} (hj : j ≤ 10) (k : Nat) (v : Int32) : sI (NHp h kn F) (kn + j) k v = NHp h kn (upF F j k v) := by
  refine ah_ext rfl rfl ?_ rfl rfl rfl rfl
  funext a i
  rw [hI_sI]
  by_cases q : kn ≤ a ∧ a ≤ kn + 10
  · have e : a = kn + (a - kn) := by omega
    generalize a - kn = j' at e
    subst e
    rw [NHp_I (by omega), NHp_I (by omega), upF_at]
    have : (kn + j' = kn + j) ↔ j' = j := by omega
    simp only [this]
  · rw [NHp_o (by omega), NHp_o (by omega), if_neg (by omega)]
theorem NHp_r (h : AH) (kn : Nat) : ∀ F, hT (NHp h kn F) = hT h ∧ hL (NHp h kn F) = hL h ∧ hR (NHp h kn F) = hR h ∧
    hI (NHp h kn F) kn = F 0 ∧ hI (NHp h kn F) (kn + 1) = F 1 ∧ hI (NHp h kn F) (kn + 2) = F 2 ∧ hI (NHp h kn F) (kn + 3) = F 3 ∧ hI (NHp h kn F) (kn + 4) = F 4 ∧ hI (NHp h kn F) (kn + 5) = F 5 ∧ hI (NHp h kn F) (kn + 6) = F 6 ∧ hI (NHp h kn F) (kn + 7) = F 7 ∧ hI (NHp h kn F) (kn + 8) = F 8 ∧ hI (NHp h kn F) (kn + 9) = F 9 ∧ hI (NHp h kn F) (kn + 10) = F 10 ∧
    (∀ k v, sI (NHp h kn F) kn k v = NHp h kn (upF F 0 k v)) ∧ (∀ k v, sI (NHp h kn F) (kn + 1) k v = NHp h kn (upF F 1 k v)) ∧ (∀ k v, sI (NHp h kn F) (kn + 2) k v = NHp h kn (upF F 2 k v)) ∧ (∀ k v, sI (NHp h kn F) (kn + 3) k v = NHp h kn (upF F 3 k v)) ∧ (∀ k v, sI (NHp h kn F) (kn + 4) k v = NHp h kn (upF F 4 k v)) ∧ (∀ k v, sI (NHp h kn F) (kn + 5) k v = NHp h kn (upF F 5 k v)) ∧ (∀ k v, sI (NHp h kn F) (kn + 6) k v = NHp h kn (upF F 6 k v)) ∧ (∀ k v, sI (NHp h kn F) (kn + 7) k v = NHp h kn (upF F 7 k v)) ∧ (∀ k v, sI (NHp h kn F) (kn + 8) k v = NHp h kn (upF F 8 k v)) ∧ (∀ k v, sI (NHp h kn F) (kn + 9) k v = NHp h kn (upF F 9 k v)) ∧ (∀ k v, sI (NHp h kn F) (kn + 10) k v = NHp h kn (upF F 10 k v)) := by
  intro F
  exact ⟨rfl, rfl, rfl, NHp_I (j := 0) (by decide), NHp_I (by decide), NHp_I (by decide), NHp_I (by decide), NHp_I (by decide), NHp_I (by decide), NHp_I (by decide), NHp_I (by decide), NHp_I (by decide), NHp_I (by decide), NHp_I (by decide), NHp_s (j := 0) (by decide), NHp_s (by decide), NHp_s (by decide), NHp_s (by decide), NHp_s (by decide), NHp_s (by decide), NHp_s (by decide), NHp_s (by decide), NHp_s (by decide), NHp_s (by decide), NHp_s (by decide)⟩
theorem NHp_id (h : AH) (kn : Nat) : NHp h kn (fun j => hI h (kn + j)) = h := by
  refine ah_ext rfl rfl ?_ rfl rfl rfl rfl
  funext a
  show (if kn ≤ a ∧ a ≤ kn + 10 then hI h (kn + (a - kn)) else hI h a) = _
  split
  · next q => rw [show kn + (a - kn) = a by omega]
  · rfl
theorem NHp_only {h : AH} {kn : Nat} {F : Nat → Nat → Int32} : OnlyI (fun a => kn ≤ a ∧ a ≤ kn + 10) h (NHp h kn F) := ⟨rfl, rfl, rfl, rfl, rfl, rfl, fun a ha => NHp_o (by omega)⟩
section NetM
variable {h : AH} {kn n : Nat} {P : Nat → Nat} {F : Nat → Nat → Int32} {Q : Option Value → AH → Prop}
theorem s23 (hf : F_net kn h) : WPM 23 [.ref kn] (NHp h kn F) Q ↔ Q none (NHp h kn (upF (upF (upF (upF F 0 0 0) 0 1 0) 0 2 0) 0 3 0)) := by
  have hr := NHp_r h kn
  simp only [we23, w23, hr, hf]
/-- Net.find -/
def fnd (nm : Nat → Nat) (w : Nat) : Nat → Nat → Option Nat
  | _, 0 => none
  | k, d + 1 => if nm k = w then some k else fnd nm w (k + 1) d
theorem s26 {nm : Nat → Nat} {w : Nat} (hf : F_net kn h) (h0 : hI h kn 0 = nI n) (hn : n ≤ 14) (hnm : ∀ k, k < n → hI h (kn + 1) k = nI (nm k) ∧ nm k < 2 ^ 31) (hw : w < 2 ^ 31) (k : Q (some (.int (oI (fnd nm w 0 n)))) h) : WPM 26 [.ref kn, .int (nI w)] h Q := by
  have lp : ∀ d y, n - y = d → y ≤ n → fnd nm w 0 n = fnd nm w y d → WP 26 2 [.ref kn, .int (nI w), .int (nI y)] [] h Q := by
    intro d
    induction d with
    | zero =>
      intro y hd hy he
      have hle : nI n ≤ nI y := nI_le (by omega) (by omega)
      rw [w26_2]
      simp only [w26, hf, h0, hle, true_implies, not_true_eq_false, false_implies, and_true]
      rw [he] at k
      exact k
    | succ d ih =>
      intro y hd hy he
      have hle : ¬ nI n ≤ nI y := nI_ge (by omega) (by omega)
      have c1 : (nI y).toNatClampNeg = y := nI_clamp (by omega)
      have i1 : inb (nI y) 14 = true := inb_nI (by omega) (by decide)
      obtain ⟨e1, e2⟩ := hnm y (by omega)
      have hs : fnd nm w y (d + 1) = if nm y = w then some y else fnd nm w (y + 1) d := rfl
      rw [w26_2]
      by_cases q : nm y = w
      · rw [if_pos q] at hs
        rw [he, hs] at k
        have q' : nI (nm y) = nI w := by rw [q]
        simp only [w26, hf, h0, hle, c1, i1, e1, q', true_or, or_true, true_implies, not_true_eq_false, not_false_eq_true, false_implies, and_true, true_and]
        exact k
      · rw [if_neg q] at hs
        have q' : ¬ nI (nm y) = nI w := fun z => q (nI_inj e2 hw z)
        simp only [w26, hf, h0, hle, c1, i1, e1, q', true_or, or_true, true_implies, not_true_eq_false, not_false_eq_true, false_implies, and_true, true_and, nI_1]
        exact ih (y + 1) (by omega) (by omega) (he.trans hs)
  rw [we26]
  simp only [w26]
  exact lp n 0 rfl (Nat.zero_le _) rfl
end NetM

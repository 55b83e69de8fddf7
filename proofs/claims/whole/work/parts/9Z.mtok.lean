/-! ===== the reference's tokens ===== -/
theorem vu : (∀ (f : Nat → Int32) (v : Int32), va_up f 4 v 3 = f 3) ∧ (∀ (f : Nat → Int32) (v : Int32), va_up f 4 v 4 = v) ∧ (∀ (f : Nat → Int32) (v : Int32), va_up f 4 v 11 = f 11) ∧ (∀ (f : Nat → Int32) (v : Int32), va_up f 4 v 12 = f 12) ∧ (∀ (f : Nat → Int32) (v : Int32), va_up f 4 v 13 = f 13) ∧ (∀ (f : Nat → Int32) (v : Int32), va_up f 4 v 14 = f 14) ∧ (∀ (f : Nat → Int32) (v : Int32), va_up f 4 v 15 = f 15) ∧ (∀ (f : Nat → Int32) (v : Int32), va_up f 4 v 16 = f 16) ∧ (∀ (f : Nat → Int32) (v : Int32), va_up f 11 v 3 = f 3) ∧ (∀ (f : Nat → Int32) (v : Int32), va_up f 11 v 4 = f 4) ∧ (∀ (f : Nat → Int32) (v : Int32), va_up f 11 v 11 = v) ∧ (∀ (f : Nat → Int32) (v : Int32), va_up f 11 v 12 = f 12) ∧ (∀ (f : Nat → Int32) (v : Int32), va_up f 11 v 13 = f 13) ∧ (∀ (f : Nat → Int32) (v : Int32), va_up f 11 v 14 = f 14) ∧ (∀ (f : Nat → Int32) (v : Int32), va_up f 11 v 15 = f 15) ∧ (∀ (f : Nat → Int32) (v : Int32), va_up f 11 v 16 = f 16) ∧ (∀ (f : Nat → Int32) (v : Int32), va_up f 12 v 3 = f 3) ∧ (∀ (f : Nat → Int32) (v : Int32), va_up f 12 v 4 = f 4) ∧ (∀ (f : Nat → Int32) (v : Int32), va_up f 12 v 11 = f 11) ∧ (∀ (f : Nat → Int32) (v : Int32), va_up f 12 v 12 = v) ∧ (∀ (f : Nat → Int32) (v : Int32), va_up f 12 v 13 = f 13) ∧ (∀ (f : Nat → Int32) (v : Int32), va_up f 12 v 14 = f 14) ∧ (∀ (f : Nat → Int32) (v : Int32), va_up f 12 v 15 = f 15) ∧ (∀ (f : Nat → Int32) (v : Int32), va_up f 12 v 16 = f 16) ∧ (∀ (f : Nat → Int32) (v : Int32), va_up f 13 v 3 = f 3) ∧ (∀ (f : Nat → Int32) (v : Int32), va_up f 13 v 4 = f 4) ∧ (∀ (f : Nat → Int32) (v : Int32), va_up f 13 v 11 = f 11) ∧ (∀ (f : Nat → Int32) (v : Int32), va_up f 13 v 12 = f 12) ∧ (∀ (f : Nat → Int32) (v : Int32), va_up f 13 v 13 = v) ∧ (∀ (f : Nat → Int32) (v : Int32), va_up f 13 v 14 = f 14) ∧ (∀ (f : Nat → Int32) (v : Int32), va_up f 13 v 15 = f 15) ∧ (∀ (f : Nat → Int32) (v : Int32), va_up f 13 v 16 = f 16) ∧ (∀ (f : Nat → Int32) (v : Int32), va_up f 14 v 3 = f 3) ∧ (∀ (f : Nat → Int32) (v : Int32), va_up f 14 v 4 = f 4) ∧ (∀ (f : Nat → Int32) (v : Int32), va_up f 14 v 11 = f 11) ∧ (∀ (f : Nat → Int32) (v : Int32), va_up f 14 v 12 = f 12) ∧ (∀ (f : Nat → Int32) (v : Int32), va_up f 14 v 13 = f 13) ∧ (∀ (f : Nat → Int32) (v : Int32), va_up f 14 v 14 = v) ∧ (∀ (f : Nat → Int32) (v : Int32), va_up f 14 v 15 = f 15) ∧ (∀ (f : Nat → Int32) (v : Int32), va_up f 14 v 16 = f 16) ∧ (∀ (f : Nat → Int32) (v : Int32), va_up f 15 v 3 = f 3) ∧ (∀ (f : Nat → Int32) (v : Int32), va_up f 15 v 4 = f 4) ∧ (∀ (f : Nat → Int32) (v : Int32), va_up f 15 v 11 = f 11) ∧ (∀ (f : Nat → Int32) (v : Int32), va_up f 15 v 12 = f 12) ∧ (∀ (f : Nat → Int32) (v : Int32), va_up f 15 v 13 = f 13) ∧ (∀ (f : Nat → Int32) (v : Int32), va_up f 15 v 14 = f 14) ∧ (∀ (f : Nat → Int32) (v : Int32), va_up f 15 v 15 = v) ∧ (∀ (f : Nat → Int32) (v : Int32), va_up f 15 v 16 = f 16) ∧ (∀ (f : Nat → Int32) (v : Int32), va_up f 16 v 3 = f 3) ∧ (∀ (f : Nat → Int32) (v : Int32), va_up f 16 v 4 = f 4) ∧ (∀ (f : Nat → Int32) (v : Int32), va_up f 16 v 11 = f 11) ∧ (∀ (f : Nat → Int32) (v : Int32), va_up f 16 v 12 = f 12) ∧ (∀ (f : Nat → Int32) (v : Int32), va_up f 16 v 13 = f 13) ∧ (∀ (f : Nat → Int32) (v : Int32), va_up f 16 v 14 = f 14) ∧ (∀ (f : Nat → Int32) (v : Int32), va_up f 16 v 15 = f 15) ∧ (∀ (f : Nat → Int32) (v : Int32), va_up f 16 v 16 = v) := by
  refine ⟨fun f v => rfl, fun f v => rfl, fun f v => rfl, fun f v => rfl, fun f v => rfl, fun f v => rfl, fun f v => rfl, fun f v => rfl, fun f v => rfl, fun f v => rfl, fun f v => rfl, fun f v => rfl, fun f v => rfl, fun f v => rfl, fun f v => rfl, fun f v => rfl, fun f v => rfl, fun f v => rfl, fun f v => rfl, fun f v => rfl, fun f v => rfl, fun f v => rfl, fun f v => rfl, fun f v => rfl, fun f v => rfl, fun f v => rfl, fun f v => rfl, fun f v => rfl, fun f v => rfl, fun f v => rfl, fun f v => rfl, fun f v => rfl, fun f v => rfl, fun f v => rfl, fun f v => rfl, fun f v => rfl, fun f v => rfl, fun f v => rfl, fun f v => rfl, fun f v => rfl, fun f v => rfl, fun f v => rfl, fun f v => rfl, fun f v => rfl, fun f v => rfl, fun f v => rfl, fun f v => rfl, fun f v => rfl, fun f v => rfl, fun f v => rfl, fun f v => rfl, fun f v => rfl, fun f v => rfl, fun f v => rfl, fun f v => rfl, fun f v => rfl⟩
/-- the heap of reading: the fields, the draft, the names -/
def MH (h : AH) (f : Nat → Int32) (j : Nat → Int64) (md cs my wh rw : Nat → Int32) (nm : Nat → Int64) : AH := setJ (setJ (setI (setI (setI (setI (setI (setI h 67 f) 70 md) 71 cs) 72 my) 73 wh) 74 rw) 67 j) 69 nm
theorem hI_setJ' (h : AH) (a : Nat) (g : Nat → Int64) : hI (setJ h a g) = hI h := rfl
theorem hJ_setI' (h : AH) (a : Nat) (g : Nat → Int32) : hJ (setI h a g) = hJ h := rfl
section MHs
variable (h : AH) (f : Nat → Int32) (j : Nat → Int64) (md cs my wh rw : Nat → Int32) (nm : Nat → Int64)
theorem MH_I (a : Nat) : hI (MH h f j md cs my wh rw nm) a = if a = 74 then rw else if a = 73 then wh else if a = 72 then my else if a = 71 then cs else if a = 70 then md else if a = 67 then f else hI h a := by
  unfold MH
  rw [hI_setJ', hI_setJ', hI_setI, hI_setI, hI_setI, hI_setI, hI_setI, hI_setI]
theorem MH_J (a : Nat) : hJ (MH h f j md cs my wh rw nm) a = if a = 69 then nm else if a = 67 then j else hJ h a := by
  unfold MH
  rw [hJ_setJ, hJ_setJ]
  rfl
end MHs
theorem MH_r (h : AH) : ∀ f j md cs my wh rw nm, hT (MH h f j md cs my wh rw nm) = hT h ∧ hL (MH h f j md cs my wh rw nm) = hL h ∧ hR (MH h f j md cs my wh rw nm) = hR h ∧ hI (MH h f j md cs my wh rw nm) 67 = f ∧ hJ (MH h f j md cs my wh rw nm) 67 = j ∧ hI (MH h f j md cs my wh rw nm) 70 = md ∧ hI (MH h f j md cs my wh rw nm) 71 = cs ∧ hI (MH h f j md cs my wh rw nm) 72 = my ∧ hI (MH h f j md cs my wh rw nm) 73 = wh ∧ hI (MH h f j md cs my wh rw nm) 74 = rw ∧ hJ (MH h f j md cs my wh rw nm) 69 = nm ∧ hI (MH h f j md cs my wh rw nm) 68 = hI h 68 ∧ hI (MH h f j md cs my wh rw nm) 96 = hI h 96 := by
  intro f j md cs my wh rw nm
  refine ⟨rfl, rfl, rfl, ?_, ?_, ?_, ?_, ?_, ?_, ?_, ?_, ?_, ?_⟩
  · rw [MH_I]; rfl
  · rw [MH_J]; rfl
  · rw [MH_I]; rfl
  · rw [MH_I]; rfl
  · rw [MH_I]; rfl
  · rw [MH_I]; rfl
  · rw [MH_I]; rfl
  · rw [MH_J]; rfl
  · rw [MH_I]; rfl
  · rw [MH_I]; rfl
theorem sI_setJ' (h : AH) (a : Nat) (g : Nat → Int64) (b k : Nat) (v : Int32) : sI (setJ h a g) b k v = setJ (sI h b k v) a g := rfl
theorem sJ_at (h : AH) (a : Nat) (g : Nat → Int64) (k : Nat) (v : Int64) : sJ (setJ h a g) a k v = setJ h a (va_up g k v) := by
  refine ah_ext rfl rfl rfl ?_ rfl rfl rfl
  funext x
  rw [hJ_setJ]
  by_cases q : x = a
  · rw [if_pos q, q, hJ_sJ_f, hJ_setJ, if_pos rfl]
  · rw [if_neg q, hJ_sJ_o q, hJ_setJ, if_neg q]
theorem sJ_ot {h : AH} {a b : Nat} (hb : b ≠ a) (g : Nat → Int64) (k : Nat) (v : Int64) : sJ (setJ h a g) b k v = setJ (sJ h b k v) a g := by
  refine ah_ext rfl rfl rfl ?_ rfl rfl rfl
  funext x
  rw [hJ_setJ]
  by_cases q : x = a
  · have q2 : x ≠ b := fun z => hb (by rw [← z, q])
    rw [if_pos q, hJ_sJ_o q2, hJ_setJ, if_pos q]
  · rw [if_neg q]
    by_cases q2 : x = b
    · rw [q2, hJ_sJ_f, hJ_sJ_f, hJ_setJ, if_neg hb]
    · rw [hJ_sJ_o q2, hJ_sJ_o q2, hJ_setJ, if_neg q]
theorem setJ_up (h : AH) (a : Nat) (g : Nat → Int64) (k : Nat) (v : Int64) : setJ (sJ h a k v) a g = setJ h a g := by
  refine ah_ext rfl rfl rfl ?_ rfl rfl rfl
  funext x
  rw [hJ_setJ, hJ_setJ]
  by_cases q : x = a
  · rw [if_pos q, if_pos q]
  · rw [if_neg q, if_neg q, hJ_sJ_o q]
theorem MH_s (h : AH) : ∀ f j md cs my wh rw nm, (∀ k v, sI (MH h f j md cs my wh rw nm) 67 k v = MH h (va_up f k v) j md cs my wh rw nm) ∧ (∀ k v, sJ (MH h f j md cs my wh rw nm) 67 k v = MH h f (va_up j k v) md cs my wh rw nm) ∧ (∀ k v, sI (MH h f j md cs my wh rw nm) 70 k v = MH h f j (va_up md k v) cs my wh rw nm) ∧ (∀ k v, sI (MH h f j md cs my wh rw nm) 71 k v = MH h f j md (va_up cs k v) my wh rw nm) ∧ (∀ k v, sI (MH h f j md cs my wh rw nm) 72 k v = MH h f j md cs (va_up my k v) wh rw nm) ∧ (∀ k v, sI (MH h f j md cs my wh rw nm) 73 k v = MH h f j md cs my (va_up wh k v) rw nm) ∧ (∀ k v, sI (MH h f j md cs my wh rw nm) 74 k v = MH h f j md cs my wh (va_up rw k v) nm) ∧ (∀ k v, sJ (MH h f j md cs my wh rw nm) 69 k v = MH h f j md cs my wh rw (va_up nm k v)) := by
  intro f j md cs my wh rw nm
  unfold MH
  refine ⟨fun k v => ?_, fun k v => ?_, fun k v => ?_, fun k v => ?_, fun k v => ?_, fun k v => ?_, fun k v => ?_, fun k v => ?_⟩
  · rw [sI_setJ', sI_setJ', sI_setI_o (by decide), sI_setI_o (by decide), sI_setI_o (by decide), sI_setI_o (by decide), sI_setI_o (by decide), sI_setI]
  · rw [sJ_ot (by decide), sJ_at]
  · rw [sI_setJ', sI_setJ', sI_setI_o (by decide), sI_setI_o (by decide), sI_setI_o (by decide), sI_setI_o (by decide), sI_setI]
  · rw [sI_setJ', sI_setJ', sI_setI_o (by decide), sI_setI_o (by decide), sI_setI_o (by decide), sI_setI]
  · rw [sI_setJ', sI_setJ', sI_setI_o (by decide), sI_setI_o (by decide), sI_setI]
  · rw [sI_setJ', sI_setJ', sI_setI_o (by decide), sI_setI]
  · rw [sI_setJ', sI_setJ', sI_setI]
  · rw [sJ_at]
/-- words in base 256 -/
def w8 : Nat → Nat → Nat
  | 0, _ => 0
  | d + 1, v => if v = 0 then 0 else w8 d (v / 27) * 256 + (v % 27 + 96)
theorem w8_inj : ∀ d v u, v < 27 ^ d → u < 27 ^ d → w8 d v = w8 d u → v = u := by
  intro d
  induction d with
  | zero =>
    intro v u hv hu _
    have h1 : v < 1 := hv
    have h2 : u < 1 := hu
    omega
  | succ d ih =>
    intro v u hv hu h
    rw [Nat.pow_succ] at hv hu
    have e : ∀ x, w8 (d + 1) x = if x = 0 then 0 else w8 d (x / 27) * 256 + (x % 27 + 96) := fun _ => rfl
    rw [e, e] at h
    have hv' : v / 27 < 27 ^ d := by omega
    have hu' : u / 27 < 27 ^ d := by omega
    by_cases q1 : v = 0
    · rw [if_pos q1] at h
      by_cases q2 : u = 0
      · omega
      · rw [if_neg q2] at h
        omega
    · rw [if_neg q1] at h
      by_cases q2 : u = 0
      · rw [if_pos q2] at h
        omega
      · rw [if_neg q2] at h
        have h1 : w8 d (v / 27) = w8 d (u / 27) := by omega
        have := ih _ _ hv' hu' h1
        omega
theorem w8_lt : ∀ d v, w8 d v < 256 ^ d := by
  intro d
  induction d with
  | zero => exact fun _ => Nat.one_pos
  | succ d ih =>
    intro v
    show (if v = 0 then 0 else w8 d (v / 27) * 256 + (v % 27 + 96)) < 256 ^ (d + 1)
    rw [Nat.pow_succ]
    have := ih (v / 27)
    split
    · have : 0 < 256 ^ d := Nat.pow_pos (by decide)
      omega
    · omega
theorem w8_more : ∀ d v, v < 27 ^ d → w8 (d + 1) v = w8 d v := by
  intro d
  induction d with
  | zero =>
    intro v hv
    have : v < 1 := hv
    have h0 : v = 0 := by omega
    rw [h0]
    rfl
  | succ d ih =>
    intro v hv
    rw [Nat.pow_succ] at hv
    show (if v = 0 then 0 else w8 (d + 1) (v / 27) * 256 + (v % 27 + 96)) = (if v = 0 then 0 else w8 d (v / 27) * 256 + (v % 27 + 96))
    rw [ih (v / 27) (by omega)]
/-- one letter more -/
theorem w8_snoc {v l : Nat} (hv : v < 27 ^ 5) (h1 : 1 ≤ l) (h2 : l ≤ 26) : w8 6 (v * 27 + l) = w8 6 v * 256 + (l + 96) := by
  rw [w8_more 5 v hv]
  show (if v * 27 + l = 0 then 0 else w8 5 ((v * 27 + l) / 27) * 256 + ((v * 27 + l) % 27 + 96)) = _
  rw [if_neg (by omega), show (v * 27 + l) / 27 = v by omega, show (v * 27 + l) % 27 = l by omega]
theorem wv_snoc {t : Nat → Int32} : ∀ m a acc, wv t (m + 1) a acc = wv t m a acc * 27 + lv (t (a + m)) := by
  intro m
  induction m with
  | zero => exact fun a acc => rfl
  | succ m ih =>
    intro a acc
    show wv t (m + 1) (a + 1) (acc * 27 + lv (t a)) = wv t m (a + 1) (acc * 27 + lv (t a)) * 27 + lv (t (a + (m + 1)))
    rw [ih, show a + 1 + m = a + (m + 1) by omega]
theorem nv_snoc {t : Nat → Int32} : ∀ m a acc, nv t (m + 1) a acc = nv t m a acc * 10 + dg (t (a + m)) := by
  intro m
  induction m with
  | zero => exact fun a acc => rfl
  | succ m ih =>
    intro a acc
    show nv t (m + 1) (a + 1) (acc * 10 + dg (t a)) = nv t m (a + 1) (acc * 10 + dg (t a)) * 10 + dg (t (a + (m + 1)))
    rw [ih, show a + 1 + m = a + (m + 1) by omega]
/-- a byte as the reference looks at it -/
def pk1 (t : Nat → Int32) (len p : Nat) : Int32 := if p < len then t p &&& 255 else -1
theorem bI_all : ∀ k, k < 256 → isLB (bI k &&& 255) = isLB (bI k) ∧ isDB (bI k &&& 255) = isDB (bI k) ∧ ((bI k &&& 255 = 32) ↔ bI k = 32) ∧ ((bI k &&& 255 = 10) ↔ bI k = 10) ∧ ((bI k &&& 255 = 59) ↔ bI k = 59) ∧ (0 ≤ bI k &&& 255) ∧ (isLB (bI k) = true → bI k &&& 255 = nI (lv (bI k) + 96)) ∧ (isDB (bI k) = true → bI k &&& 255 = nI (dg (bI k) + 48)) := by decide +kernel
theorem by_all {t : Nat → Int32} {p : Nat} (tb : TpB t) (hp : p < 540) : isLB (t p &&& 255) = isLB (t p) ∧ isDB (t p &&& 255) = isDB (t p) ∧ ((t p &&& 255 = 32) ↔ t p = 32) ∧ ((t p &&& 255 = 10) ↔ t p = 10) ∧ ((t p &&& 255 = 59) ↔ t p = 59) ∧ (0 ≤ t p &&& 255) ∧ (isLB (t p) = true → t p &&& 255 = nI (lv (t p) + 96)) ∧ (isDB (t p) = true → t p &&& 255 = nI (dg (t p) + 48)) := by
  obtain ⟨k, hk, e⟩ := tb p hp
  rw [e]
  exact bI_all k hk
theorem m1_all : isLB (-1) = false ∧ isDB (-1) = false ∧ ¬ (-1 : Int32) = 32 ∧ ¬ (-1 : Int32) = 10 := by decide +kernel
theorem skB_cut {t : Nat → Int32} : ∀ d' d p, d' ≤ d → (skB t d p < p + d' → skB t d' p = skB t d p) ∧ (p + d' ≤ skB t d p → skB t d' p = p + d') := by
  intro d'
  induction d' with
  | zero =>
    intro d p _
    have := (skB_le t d p).1
    exact ⟨fun z => by omega, fun _ => rfl⟩
  | succ d' ih =>
    intro d p hd
    obtain ⟨e, rfl⟩ : ∃ e, d = e + 1 := ⟨d - 1, by omega⟩
    have h := ih e (p + 1) (by omega)
    show ((if isBB (t p) = true then skB t e (p + 1) else p) < p + (d' + 1) → (if isBB (t p) = true then skB t d' (p + 1) else p) = (if isBB (t p) = true then skB t e (p + 1) else p)) ∧ (p + (d' + 1) ≤ (if isBB (t p) = true then skB t e (p + 1) else p) → (if isBB (t p) = true then skB t d' (p + 1) else p) = p + (d' + 1))
    split
    · exact ⟨fun z => h.1 (by omega), fun z => by rw [h.2 (by omega)]; omega⟩
    · exact ⟨fun _ => rfl, fun z => by omega⟩
section Mt
variable {h : AH} {f : Nat → Int32} {j : Nat → Int64} {md cs my wh rw : Nat → Int32} {nm : Nat → Int64} {len p : Nat} {Q : Option Value → AH → Prop}
theorem s154 (x : Int32) {h : AH} : WPM 154 [.int x] h Q ↔ Q (some (.int (if isLB x = true then 1 else 0))) h := by
  unfold isLB
  by_cases q1 : x < 97
  · have q1' : ¬ 97 ≤ x := Int32.not_le.mpr q1
    simp [we154, w154, q1, q1']
  · have q1' : 97 ≤ x := Int32.not_lt.mp q1
    by_cases q2 : 122 < x
    · have q2' : ¬ x ≤ 122 := Int32.not_le.mpr q2
      simp [we154, w154, q1, q1', q2, q2']
    · have q2' : x ≤ 122 := Int32.not_lt.mp q2
      simp [we154, w154, q1, q1', q2, q2']
theorem s155 (x : Int32) {h : AH} : WPM 155 [.int x] h Q ↔ Q (some (.int (if isDB x = true then 1 else 0))) h := by
  unfold isDB
  by_cases q1 : x < 48
  · have q1' : ¬ 48 ≤ x := Int32.not_le.mpr q1
    simp [we155, w155, q1, q1']
  · have q1' : 48 ≤ x := Int32.not_lt.mp q1
    by_cases q2 : 57 < x
    · have q2' : ¬ x ≤ 57 := Int32.not_le.mpr q2
      simp [we155, w155, q1, q1', q2, q2']
    · have q2' : x ≤ 57 := Int32.not_lt.mp q2
      simp [we155, w155, q1, q1', q2, q2']
theorem s153 (ms : MS0 h) (h3 : f 3 = nI len) (h4 : f 4 = nI p) (hl : len ≤ 540) (hp : p ≤ 541) : WPM 153 [.ref 67] (MH h f j md cs my wh rw nm) Q ↔ Q (some (.int (pk1 (hI h 68) len p))) (MH h f j md cs my wh rw nm) := by
  have hr := MH_r h
  unfold pk1
  rw [we153]
  by_cases q : p < len
  · have hle : ¬ nI len ≤ nI p := nI_ge q (by omega)
    have c1 : (nI p).toNatClampNeg = p := nI_clamp (by omega)
    have i1 : inb (nI p) 540 = true := inb_nI (by omega) (by decide)
    rw [if_pos q]
    simp only [w153, hr, ms, h3, h4, hle, c1, i1, zz]
  · have hle : nI len ≤ nI p := nI_le (by omega) (by omega)
    rw [if_neg q]
    simp only [w153, hr, ms, h3, h4, hle, zz]
end Mt

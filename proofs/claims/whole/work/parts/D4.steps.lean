/-! ===== STEPS of a method that stands in no table ===== -/
section X4
variable {p : Program} {l : Launch} {e : Env} {R : Room} {s : State} {m : MethodId} {args : Array Value} {below : List Frame} {meth : Method} {cd : Code} {H : Heap} {locs : List Loc} {cells slots : Nat} {Q : State → Prop}
variable {g : GG} {h h1 : AH} {cc : ByteArray} {nL : Nat} {own : String} {f lo pc : Nat} {LS : Array Slot} {ls st : List Value} {i : Instr} {info : List Nat}
theorem xL {pc' : Nat} {ls' st' : List Value} (hX : Cyy g p R s m args cd cc nL own f lo) (hdg : decode cc pc = .ok (i, ilen i info)) (hck : chk0 own i info = true) (hl : LH g LS nL ls) (hst : lstep i info pc ls st = some (pc', ls', st')) (k : ∀ LS', LH g LS' nL ls' → W p l e R s m args below meth cd H locs cells slots Q (F0 m pc' LS' (trs g st'))) : W p l e R s m args below meth cd H locs cells slots Q (F0 m pc LS (trs g st)) := simL g hX.1.1 hX.1.2.1 hX.1.2.2.2.1 hX.1.2.2.2.2 hdg hck hl hst k
theorem xH {st' : List Value} (hX : Cyy g p R s m args cd cc nL own f lo) (h1f : 1 ≤ f) (h24 : 24 ≤ lo) (hdg : decode cc pc = .ok (i, ilen i info)) (hck : chk1 own "x" i info = true) (hl : LH g LS nL ls) (vS : va_S (gA g) s.heap H locs) (rl : Rl g h H) (hc : cells ≤ R.cells ∧ slots ≤ R.slots) (hst : hstep i info st h = some (st', h1)) (en : hN h1 = hN h) (es : hS h1 = hS h)
    (kk : ∀ (H1 : Heap) (locs1 : List Loc), Rl g h1 H1 → va_S (gA g) s.heap H1 locs1 → W p l e R s m args below meth cd H1 locs1 cells slots Q (F0 m (pc + ilen i info) LS (trs g st'))) : W p l e R s m args below meth cd H locs cells slots Q (F0 m pc LS (trs g st)) := by
  obtain ⟨⟨hx, hb, hml, hown, hts⟩, hBK, hfr, hlo⟩ := hX
  refine simH (nm := "x") hx hb (hml.trans hl.1.symm) hown hts hBK.1 (fun z => absurd z (by decide)) (by omega) (by omega) hdg hck vS rl hst (by dsimp only; omega) (by dsimp only; omega) ?_
  intro H1 locs1 rl1 vS1
  have h9 := kk H1 locs1 rl1 vS1
  dsimp only at rl1 ⊢
  rw [en, es, Nat.sub_self, Nat.sub_self]
  exact h9
theorem xC {k : Nat} {av rest : List Value} {r : Option Value} (hX : Cyy g p R s m args cd cc nL own f lo) (hf10 : f ≤ 10) (hdg : decode cc pc = .ok (i, ilen i info)) (hck : chk3 own f lo i info = true) (hl : LH g LS nL ls) (hpop : popc info st h = some (k, av, rest)) (hk : k < 900) (hkl : k ≠ lawC) (hw : WPM k av h (fun r' h' => r' = r ∧ h' = h)) (vS : va_S (gA g) s.heap H locs) (rl : Rl g h H) (hc : cells ≤ R.cells ∧ slots ≤ R.slots)
    (kk : ∀ (H1 : Heap) (locs1 : List Loc), Rl g h H1 → va_S (gA g) s.heap H1 locs1 → W p l e R s m args below meth cd H1 locs1 cells slots Q (F0 m (pc + 3) LS (trs g (r.toList ++ rest)))) : W p l e R s m args below meth cd H locs cells slots Q (F0 m pc LS (trs g st)) := by
  obtain ⟨n, r', h', er, rfl, rfl⟩ := hw
  unfold runM at er
  rw [if_neg (by omega)] at er
  split at er
  · next hlen =>
    cases hmk : mi k with
    | none => simp only [mL, hmk] at er; exact absurd er (by rw [run_none hmk]; intro q; cases q)
    | some f9 =>
      have hmL : mL k = f9.2.2.1 := by simp only [mL, hmk]
      rw [hmL] at er hlen
      refine callB hX hl.1 hdg hck hpop hk hmk hkl (metB (fun pc' ls' st' h0 r0 h0' q0 => simN g l n k pc' ls' st' h0 r0 h0' hkl q0) hmk hkl er hlen) vS rl (by rw [Nat.sub_self]; exact hc.1) (by rw [Nat.sub_self]; exact hc.2) fun H1 locs1 rl1 vS1 => ?_
      rw [Nat.sub_self, Nat.sub_self]
      exact kk H1 locs1 rl1 vS1
  · cases er
end X4
/-! reads -/
theorem hsR {a ci k pl ix : Nat} {r : List Value} {h : AH} (ht : hT h a = ci + 1) : hstep (.getfield ix) [ci, k, 2, pl] (.ref a :: r) h = some (.ref (hR h a k) :: r, h) := by
  show (if hT h a = ci + 1 then some ((if (2 : Nat) = 1 then Value.long (hJ h a k) else if (2 : Nat) = 2 then Value.ref (hR h a k) else Value.int (hI h a k)) :: r, h) else none) = _
  rw [if_pos ht]
  rfl
theorem hsI {a ci k pl ix : Nat} {r : List Value} {h : AH} (ht : hT h a = ci + 1) : hstep (.getfield ix) [ci, k, 0, pl] (.ref a :: r) h = some (.int (hI h a k) :: r, h) := by
  show (if hT h a = ci + 1 then some ((if (0 : Nat) = 1 then Value.long (hJ h a k) else if (0 : Nat) = 2 then Value.ref (hR h a k) else Value.int (hI h a k)) :: r, h) else none) = _
  rw [if_pos ht]
  rfl
theorem hsA {a : Nat} {i : Int32} {r : List Value} {h : AH} (ht : hT h a = 100) (hi : inb i (hL h a) = true) : hstep .iaload [] (.int i :: .ref a :: r) h = some (.int (hI h a i.toNatClampNeg) :: r, h) := by
  show (if (hT h a = 100 ∨ hT h a = 110) ∧ inb i (hL h a) = true then some (Value.int (hI h a i.toNatClampNeg) :: r, h) else none) = _
  rw [if_pos ⟨Or.inl ht, hi⟩]
theorem hsS {a : Nat} {x : Int64} {r : List Value} {h : AH} (ht : hT h a = 103) (hi : 0 < hL h a) : hstep .lastore [] (.long x :: .int 0 :: .ref a :: r) h = some (r, sJ h a 0 x) := by
  show (if hT h a = 103 ∧ inb 0 (hL h a) = true then some (r, sJ h a (0 : Int32).toNatClampNeg x) else none) = _
  have hb : inb 0 (hL h a) = true := by
    unfold inb
    simp only [Bool.and_eq_true, decide_eq_true_eq]
    exact ⟨by decide, hi⟩
  rw [if_pos ⟨ht, hb⟩]
  rfl
theorem sHas {n : Nat} {h : AH} (hn : hT h n = 4) (k : Int32) (b : Bool) (hb : (0 ≤ k ∧ k < hI h n 0) ↔ b = true) : WPM 24 [.ref n, .int k] h (fun r' h' => r' = some (.int (if b = true then 1 else 0)) ∧ h' = h) := by
  rw [we24]
  by_cases q0 : k < 0
  · have q1 : ¬ b = true := fun z => absurd q0 (Int32.not_lt.mpr (hb.mpr z).1)
    simp only [w24, hn, q0, q1, true_or, or_true, true_implies, not_true_eq_false, not_false_eq_true, false_implies, and_true, true_and, if_false, Bool.false_eq_true, Bool.not_eq_true]
  · have q00 : 0 ≤ k := Int32.not_lt.mp q0
    by_cases q2 : hI h n 0 ≤ k
    · have q1 : ¬ b = true := fun z => absurd (hb.mpr z).2 (Int32.not_lt.mpr q2)
      simp only [w24, hn, q0, q2, q1, true_or, or_true, true_implies, not_true_eq_false, not_false_eq_true, false_implies, and_true, true_and, if_false, Bool.false_eq_true]
    · have q1 : b = true := hb.mp ⟨q00, Int32.not_le.mp q2⟩
      simp only [w24, hn, q0, q2, q1, true_or, or_true, true_implies, not_true_eq_false, not_false_eq_true, false_implies, and_true, true_and, if_true]

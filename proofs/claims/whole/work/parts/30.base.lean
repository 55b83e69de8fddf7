/-! ===== heaps: what a store leaves ===== -/
theorem hs_sI (h : AH) (a k : Nat) (v : Int32) : hT (sI h a k v) = hT h ∧ hL (sI h a k v) = hL h ∧ hJ (sI h a k v) = hJ h ∧ hR (sI h a k v) = hR h ∧ hN (sI h a k v) = hN h ∧ hS (sI h a k v) = hS h := ⟨rfl, rfl, rfl, rfl, rfl, rfl⟩
theorem hs_sJ (h : AH) (a k : Nat) (v : Int64) : hT (sJ h a k v) = hT h ∧ hL (sJ h a k v) = hL h ∧ hI (sJ h a k v) = hI h ∧ hR (sJ h a k v) = hR h ∧ hN (sJ h a k v) = hN h ∧ hS (sJ h a k v) = hS h := ⟨rfl, rfl, rfl, rfl, rfl, rfl⟩
theorem hs_sR (h : AH) (a k : Nat) (v : Nat) : hT (sR h a k v) = hT h ∧ hL (sR h a k v) = hL h ∧ hI (sR h a k v) = hI h ∧ hJ (sR h a k v) = hJ h ∧ hN (sR h a k v) = hN h ∧ hS (sR h a k v) = hS h := ⟨rfl, rfl, rfl, rfl, rfl, rfl⟩
theorem hI_sI (h : AH) (a k : Nat) (v : Int32) (b j : Nat) : hI (sI h a k v) b j = if b = a ∧ j = k then v else hI h b j := by
  show up2 (hI h) a k v b j = _
  unfold up2
  by_cases hb : b = a
  · subst hb
    by_cases hj : j = k <;> simp [hj]
  · simp [hb]
theorem hI_sI_f (h : AH) (a k : Nat) (v : Int32) : hI (sI h a k v) a = va_up (hI h a) k v := by
  funext j
  rw [hI_sI]
  simp [va_up]
theorem hI_sI_o {h : AH} {a k : Nat} {v : Int32} {b : Nat} (hb : b ≠ a) : hI (sI h a k v) b = hI h b := by
  funext j
  rw [hI_sI, if_neg (fun q => hb q.1)]
theorem hJ_sJ (h : AH) (a k : Nat) (v : Int64) (b j : Nat) : hJ (sJ h a k v) b j = if b = a ∧ j = k then v else hJ h b j := by
  show up2 (hJ h) a k v b j = _
  unfold up2
  by_cases hb : b = a
  · subst hb
    by_cases hj : j = k <;> simp [hj]
  · simp [hb]
theorem hJ_sJ_f (h : AH) (a k : Nat) (v : Int64) : hJ (sJ h a k v) a = va_up (hJ h a) k v := by
  funext j
  rw [hJ_sJ]
  simp [va_up]
theorem hJ_sJ_o {h : AH} {a k : Nat} {v : Int64} {b : Nat} (hb : b ≠ a) : hJ (sJ h a k v) b = hJ h b := by
  funext j
  rw [hJ_sJ, if_neg (fun q => hb q.1)]
theorem hR_sR (h : AH) (a k : Nat) (v : Nat) (b j : Nat) : hR (sR h a k v) b j = if b = a ∧ j = k then v else hR h b j := by
  show up2 (hR h) a k v b j = _
  unfold up2
  by_cases hb : b = a
  · subst hb
    by_cases hj : j = k <;> simp [hj]
  · simp [hb]
theorem hT_nw (h : AH) (t n sl a : Nat) : hT (nw h t n sl) a = if a = hN h then t else hT h a := rfl
theorem hL_nw (h : AH) (t n sl a : Nat) : hL (nw h t n sl) a = if a = hN h then n else hL h a := rfl
theorem hI_nw (h : AH) (t n sl a : Nat) : hI (nw h t n sl) a = if a = hN h then (fun _ => 0) else hI h a := rfl
theorem hJ_nw (h : AH) (t n sl a : Nat) : hJ (nw h t n sl) a = if a = hN h then (fun _ => 0) else hJ h a := rfl
theorem hR_nw (h : AH) (t n sl a : Nat) : hR (nw h t n sl) a = if a = hN h then (fun _ => 0) else hR h a := rfl
theorem hN_nw (h : AH) (t n sl : Nat) : hN (nw h t n sl) = hN h + 1 := rfl
theorem hS_nw (h : AH) (t n sl : Nat) : hS (nw h t n sl) = hS h + sl := rfl
/-- only ints of the cells that A names have changed -/
def OnlyI (A : Nat → Prop) (h h' : AH) : Prop := hT h' = hT h ∧ hL h' = hL h ∧ hJ h' = hJ h ∧ hR h' = hR h ∧ hN h' = hN h ∧ hS h' = hS h ∧ ∀ a, ¬ A a → hI h' a = hI h a
theorem OnlyI.rf {A : Nat → Prop} {h : AH} : OnlyI A h h := ⟨rfl, rfl, rfl, rfl, rfl, rfl, fun _ _ => rfl⟩
theorem OnlyI.trans {A : Nat → Prop} {h h1 h2 : AH} (a : OnlyI A h h1) (b : OnlyI A h1 h2) : OnlyI A h h2 :=
  ⟨b.1.trans a.1, b.2.1.trans a.2.1, b.2.2.1.trans a.2.2.1, b.2.2.2.1.trans a.2.2.2.1, b.2.2.2.2.1.trans a.2.2.2.2.1, b.2.2.2.2.2.1.trans a.2.2.2.2.2.1, fun x hx => (b.2.2.2.2.2.2 x hx).trans (a.2.2.2.2.2.2 x hx)⟩
theorem OnlyI.mono {A B : Nat → Prop} {h h1 : AH} (a : OnlyI A h h1) (hAB : ∀ x, A x → B x) : OnlyI B h h1 :=
  ⟨a.1, a.2.1, a.2.2.1, a.2.2.2.1, a.2.2.2.2.1, a.2.2.2.2.2.1, fun x hx => a.2.2.2.2.2.2 x (fun q => hx (hAB x q))⟩
theorem OnlyI.sI {A : Nat → Prop} {h h1 : AH} (a : OnlyI A h h1) {x k : Nat} (v : Int32) (hx : A x) : OnlyI A h (sI h1 x k v) :=
  ⟨a.1, a.2.1, a.2.2.1, a.2.2.2.1, a.2.2.2.2.1, a.2.2.2.2.2.1, fun y hy => by
    have hyx : y ≠ x := fun q => hy (by rw [q]; exact hx)
    rw [hI_sI_o hyx]
    exact a.2.2.2.2.2.2 y hy⟩
/-! numbers -/
theorem inb_nI {k n : Nat} (h : k < n) (hn : n < 2 ^ 31) : inb (nI k) n = true := by
  have h1 : (0 : Int32) ≤ nI k := nI_pos' (by omega)
  simp [inb, h1, nI_clamp (show k < 2 ^ 31 by omega), h]
theorem nI_and (a b : Nat) : nI a &&& nI b = nI (a &&& b) := by
  apply Int32.toBitVec_inj.mp
  simp [nI, BitVec.ofNat_and]
theorem nI_or (a b : Nat) : nI a ||| nI b = nI (a ||| b) := by
  apply Int32.toBitVec_inj.mp
  simp [nI, BitVec.ofNat_or]
theorem nI_inj {a b : Nat} (ha : a < 2 ^ 31) (hb : b < 2 ^ 31) (h : nI a = nI b) : a = b := (nI_eq ha hb).mp h
/-- a without b, as sets -/
def sdf (a b : Nat) : Nat := a ^^^ (a &&& b)
theorem sdf_bit (a b i : Nat) : (sdf a b).testBit i = (a.testBit i && !b.testBit i) := by
  simp only [sdf, Nat.testBit_xor, Nat.testBit_and]
  cases a.testBit i <;> cases b.testBit i <;> rfl
theorem nI_sdf (a b : Nat) : nI a &&& (nI b ^^^ (-1)) = nI (sdf a b) := by
  apply Int32.toBitVec_inj.mp
  apply BitVec.eq_of_getLsbD_eq
  intro i hi
  have e1 : (nI a &&& (nI b ^^^ (-1))).toBitVec = BitVec.ofNat 32 a &&& (BitVec.ofNat 32 b ^^^ BitVec.allOnes 32) := rfl
  have e2 : (nI (sdf a b)).toBitVec = BitVec.ofNat 32 (sdf a b) := rfl
  rw [e1, e2]
  simp only [BitVec.getLsbD_and, BitVec.getLsbD_xor, BitVec.getLsbD_allOnes, BitVec.getLsbD_ofNat, hi, decide_true, Bool.true_and, sdf_bit]
  simp
theorem nI_pow : ∀ k, k < 31 → (1 : Int32) <<< (nI k &&& 31) = nI (2 ^ k) := by decide +kernel
theorem nI_shr_bit {s k : Nat} (hs : s < 2 ^ 31) (hk : k < 31) : ((nI s >>> (nI k &&& 31)) &&& 1) = nI (if s.testBit k then 1 else 0) := by
  have h1 : nI s >>> (nI k &&& 31) = nI (s / 2 ^ k) := pk_shrN hs _ k (by
    have : ∀ k, k < 31 → ((nI k &&& 31).toBitVec.smod 32).toNat = k := by decide +kernel
    exact this k hk)
  rw [h1, show (1 : Int32) = nI 1 from rfl, nI_and]
  congr 1
  rw [Nat.and_one_is_mod, Nat.testBit_eq_decide_div_mod_eq]
  by_cases q : s / 2 ^ k % 2 = 1
  · simp [q]
  · have : s / 2 ^ k % 2 = 0 := by omega
    simp [this]

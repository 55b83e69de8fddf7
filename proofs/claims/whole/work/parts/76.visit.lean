/-! ===== Small: open, visit ===== -/
theorem nI_pow32 : ∀ k, k < 32 → (1 : Int32) <<< (nI k &&& 31) = nI (2 ^ k) := by decide +kernel
theorem sh31 : ∀ p, p < 32 → ((nI p &&& 31).toBitVec.smod 32).toNat = p := by decide +kernel
theorem nI_shr_bit32 {s k : Nat} (hk : k < 32) : ((nI s >>> (nI k &&& 31)) &&& 1) = nI (if s.testBit k then 1 else 0) := by
  apply Int32.toBitVec_inj.mp
  apply BitVec.eq_of_getLsbD_eq
  intro i hi
  have e1 : ((nI s >>> (nI k &&& 31)) &&& 1).toBitVec = ((BitVec.ofNat 32 s).sshiftRight ((nI k &&& 31).toBitVec.smod 32).toNat) &&& 1#32 := rfl
  rw [e1, sh31 k hk, BitVec.getLsbD_and]
  have e2 : (nI (if s.testBit k then 1 else 0)).toBitVec = BitVec.ofNat 32 (if s.testBit k then 1 else 0) := rfl
  rw [e2, BitVec.getLsbD_sshiftRight, BitVec.getLsbD_ofNat, BitVec.getLsbD_ofNat]
  by_cases q : i = 0
  · subst q
    cases h9 : s.testBit k <;> simp [h9, hk]
  · have h1 : Nat.testBit 1 i = false := Nat.testBit_lt_two_pow (Nat.lt_of_lt_of_le (m := 2) (by decide) (Nat.pow_le_pow_right (n := 2) (by decide) (show 1 ≤ i by omega)))
    rw [h1, Bool.and_false, Bool.and_false]
    have h2 : ∀ b : Bool, (if b = true then 1 else 0 : Nat).testBit i = false := fun b => by
      refine Nat.testBit_lt_two_pow (Nat.lt_of_lt_of_le (m := 2) ?_ (Nat.pow_le_pow_right (n := 2) (by decide) (show 1 ≤ i by omega)))
      split <;> decide
    rw [BitVec.getLsbD_ofNat, h2]
    simp
theorem shl8 : ∀ b, b < 256 → nI b <<< ((8 : Int32) &&& 31) = nI (256 * b) := by decide +kernel
theorem or_256 {a b : Nat} (ha : a < 256) : a ||| 256 * b = 256 * b + a := by
  rw [Nat.or_comm]
  have := Nat.two_pow_add_eq_or_of_lt (i := 8) (b := a) ha b
  exact this.symm
theorem shr5 {c : Nat} (hc : c < 2 ^ 31) : nI c >>> ((5 : Int32) &&& 31) = nI (c / 32) := pk_shrN hc _ 5 (by decide)
theorem shr8 {c : Nat} (hc : c < 2 ^ 31) : nI c >>> ((8 : Int32) &&& 31) = nI (c / 256) := pk_shrN hc _ 8 (by decide)
theorem and31 (c : Nat) : nI c &&& 31 = nI (c % 32) := by
  have := nI_and c 31
  rw [show c &&& 31 = c % 32 from Nat.and_two_pow_sub_one_eq_mod c 5] at this
  exact this
theorem and255 (c : Nat) : nI c &&& 255 = nI (c % 256) := by
  have := nI_and c 255
  rw [show c &&& 255 = c % 256 from Nat.and_two_pow_sub_one_eq_mod c 8] at this
  exact this
def VHp (h : AH) (q l : Nat) (qu mk : Nat → Int32) (m : Nat) : AH :=
  (hT h, hL h, fun a => if a = q then qu else if a = l then mk else if a = 64 then va_up (hI h 64) 3 (nI m) else hI h a, hJ h, hR h, hN h, hS h)
theorem VHp_I (h : AH) (q l : Nat) (qu mk : Nat → Int32) (m a : Nat) : hI (VHp h q l qu mk m) a = if a = q then qu else if a = l then mk else if a = 64 then va_up (hI h 64) 3 (nI m) else hI h a := rfl
theorem VHp_only {h : AH} {q l m : Nat} {qu mk : Nat → Int32} : OnlyI (fun a => a = q ∨ a = l ∨ a = 64) h (VHp h q l qu mk m) := by
  refine ⟨rfl, rfl, rfl, rfl, rfl, rfl, fun a ha => ?_⟩
  rw [VHp_I, if_neg (fun z => ha (Or.inl z)), if_neg (fun z => ha (Or.inr (Or.inl z))), if_neg (fun z => ha (Or.inr (Or.inr z)))]
theorem VHp_r {h : AH} {q l : Nat} (n1 : q ≠ l) (n2 : q ≠ 64) (n3 : l ≠ 64) : ∀ (qu mk : Nat → Int32) (m : Nat), hT (VHp h q l qu mk m) = hT h ∧ hL (VHp h q l qu mk m) = hL h ∧ hR (VHp h q l qu mk m) = hR h ∧ hI (VHp h q l qu mk m) q = qu ∧ hI (VHp h q l qu mk m) l = mk ∧ hI (VHp h q l qu mk m) 64 3 = nI m ∧ hI (VHp h q l qu mk m) 64 4 = hI h 64 4 ∧
    (∀ k v, sI (VHp h q l qu mk m) q k v = VHp h q l (va_up qu k v) mk m) ∧ (∀ k v, sI (VHp h q l qu mk m) l k v = VHp h q l qu (va_up mk k v) m) ∧ (∀ m', sI (VHp h q l qu mk m) 64 3 (nI m') = VHp h q l qu mk m') := by
  intro qu mk m
  have n1' := Ne.symm n1
  have n2' := Ne.symm n2
  have n3' := Ne.symm n3
  have e : ∀ a k v (qu' mk' : Nat → Int32) (m' : Nat), (∀ c, hI (setI (VHp h q l qu mk m) a (va_up (hI (VHp h q l qu mk m) a) k v)) c = hI (VHp h q l qu' mk' m') c) → sI (VHp h q l qu mk m) a k v = VHp h q l qu' mk' m' := fun a k v qu' mk' m' hh => by
    rw [sI_as]
    exact ah_ext rfl rfl (funext hh) rfl rfl rfl rfl
  refine ⟨rfl, rfl, rfl, ?_, ?_, ?_, ?_, fun k v => e q k v _ _ _ fun c => ?_, fun k v => e l k v _ _ _ fun c => ?_, fun m' => e 64 3 _ _ _ _ fun c => ?_⟩
  · rw [VHp_I, if_pos rfl]
  · rw [VHp_I, if_neg n1', if_pos rfl]
  · rw [VHp_I, if_neg n2', if_neg n3', if_pos rfl, up_at, if_pos rfl]
  · rw [VHp_I, if_neg n2', if_neg n3', if_pos rfl, up_at, if_neg (by decide)]
  · rw [hI_setI, VHp_I, VHp_I, VHp_I]
    by_cases w : c = q
    · simp only [w, if_true]
    · simp only [w, if_false]
  · rw [hI_setI, VHp_I, VHp_I, VHp_I]
    by_cases w : c = l
    · simp only [w, if_true, n1', if_false]
    · simp only [w, if_false]
  · rw [hI_setI, VHp_I, VHp_I, VHp_I]
    by_cases w : c = 64
    · subst w
      simp only [if_true, n2', n3', if_false]
      funext j
      rw [up_at, up_at, up_at]
      split <;> rfl
    · simp only [w, if_false]
/-- what the searches need of the heap -/
def VX (h : AH) (q l mo : Nat) : Prop := (hT h 64 = 10 ∧ hR h 64 1 = q ∧ hR h 64 2 = l ∧ hT h q = 100 ∧ hT h l = 100 ∧ hI h 64 4 = nI mo) ∧ (mo ≤ hL h q ∧ hL h q ≤ 65536 ∧ 2048 ≤ hL h l ∧ hL h l ≤ 65536) ∧ (q ≠ l ∧ q ≠ 64 ∧ l ≠ 64) ∧ ∀ a, a < 27 → a ≠ q ∧ a ≠ l
/-- the rows hold the states -/
def VR (qu mk : Nat → Int32) (qs : List Nat) : Prop := (∀ j x, qs[j]? = some x → qu j = nI x) ∧ ∀ wd, wd < 2048 → ∃ W, mk wd = nI W ∧ ∀ i, i < 32 → W.testBit i = decide (32 * wd + i ∈ qs)
def vis (mo : Nat) (qs : List Nat) (c : Nat) : List Nat := if c ∈ qs ∨ mo ≤ qs.length then qs else qs ++ [c]
section Visit
variable {h : AH} {B M q l mo : Nat} {Q : Option Value → AH → Prop}
theorem s83 {a b : Nat} {qs : List Nat} {qu mk : Nat → Int32} (x : VX h q l mo) (hmo : mo < 2 ^ 30) (ha : a < 256) (hb : b < 256) (hql : qs.length ≤ mo) (vr : VR qu mk qs)
    (k : ∀ qu' mk', VR qu' mk' (vis mo qs (256 * b + a)) → Q none (VHp h q l qu' mk' (vis mo qs (256 * b + a)).length)) : WPM 83 [.ref 64, .int (nI a), .int (nI b)] (VHp h q l qu mk qs.length) Q := by
  obtain ⟨⟨t1, t2, t3, t4, t5, t6⟩, ⟨l1, l2, l3, l4⟩, ⟨n1, n2, n3⟩, -⟩ := x
  have hr := VHp_r (h := h) n1 n2 n3
  have e1 : nI a ||| nI (256 * b) = nI (256 * b + a) := by rw [nI_or, or_256 ha]
  obtain ⟨c, ec⟩ : ∃ c, c = 256 * b + a := ⟨_, rfl⟩
  rw [← ec] at k e1
  have hc : c < 65536 := by omega
  have hwd : c / 32 < 2048 := by omega
  have hbi : c % 32 < 32 := Nat.mod_lt _ (by decide)
  have hcc : 32 * (c / 32) + c % 32 = c := by omega
  have g0 : ¬ nI (c / 32) < 0 := nI_pos (by omega)
  have g1 : ¬ (2048 : Int32) ≤ nI (c / 32) := nI_ge (b := 2048) hwd (by decide)
  have cw : (nI (c / 32)).toNatClampNeg = c / 32 := nI_clamp (by omega)
  have iw : inb (nI (c / 32)) (hL h l) = true := inb_nI (by omega) (by omega)
  obtain ⟨r1, r2⟩ := vr
  obtain ⟨W, w1, w2⟩ := r2 (c / 32) hwd
  have hbit : nI W >>> (nI (c % 32) &&& 31) &&& 1 = nI (if decide (c ∈ qs) = true then 1 else 0) := by
    rw [nI_shr_bit32 hbi, w2 (c % 32) hbi, hcc]
  have hb2 : c % 32 % 32 = c % 32 := Nat.mod_mod _ _
  rw [we83]
  by_cases q1 : mo ≤ qs.length
  · have ev : vis mo qs c = qs := by unfold vis; rw [if_pos (Or.inr q1)]
    rw [ev] at k
    have hle : nI mo ≤ nI qs.length := nI_le q1 (by omega)
    simp only [w83_a, w83_b, shl8 b hb, e1, shr5 (show c < 2 ^ 31 by omega), g0, g1, hr, t1, t6, hle, true_or, or_true, true_implies, not_true_eq_false, not_false_eq_true, false_implies, and_true, true_and]
    exact k qu mk ⟨r1, r2⟩
  · have hle : ¬ nI mo ≤ nI qs.length := nI_ge (by omega) (by omega)
    by_cases q2 : c ∈ qs
    · have ev : vis mo qs c = qs := by unfold vis; rw [if_pos (Or.inl q2)]
      rw [ev] at k
      rw [decide_eq_true q2] at hbit
      simp only [w83_a, w83_b, shl8 b hb, e1, shr5 (show c < 2 ^ 31 by omega), g0, g1, hr, t1, t3, t5, t6, hle, cw, iw, w1, and31 c, s140, hbit, if_true, show (nI 1 = 1) from rfl, Option.toList_some, List.cons_append, List.nil_append, true_or, or_true, true_implies, not_true_eq_false, not_false_eq_true, false_implies, and_true, true_and]
      exact k qu mk ⟨r1, r2⟩
    · have ev : vis mo qs c = qs ++ [c] := by
        unfold vis
        rw [if_neg]
        rintro (z | z)
        · exact q2 z
        · exact q1 z
      rw [ev] at k
      rw [decide_eq_false q2] at hbit
      have hpw := nI_pow32 (c % 32) hbi
      have co : (nI qs.length).toNatClampNeg = qs.length := nI_clamp (by omega)
      have io : inb (nI qs.length) (hL h q) = true := inb_nI (by omega) (by omega)
      simp only [w83_a, w83_b, shl8 b hb, e1, shr5 (show c < 2 ^ 31 by omega), g0, g1, hr, t1, t2, t3, t4, t5, t6, hle, cw, iw, co, io, w1, and31 c, s140, hbit, hpw, nI_or, if_false, Bool.false_eq_true, show ¬ (nI 0 = 1) from by decide, Option.toList_some, List.cons_append, List.nil_append, true_or, or_true, true_implies, not_true_eq_false, not_false_eq_true, false_implies, and_true, true_and, nI_1]
      have elen : (qs ++ [c]).length = qs.length + 1 := by simp
      rw [elen] at k
      refine k _ _ ⟨fun j v hj => ?_, fun wd hwd' => ?_⟩
      · rw [up_at]
        rcases Nat.lt_trichotomy j qs.length with w9 | w9 | w9
        · rw [List.getElem?_append_left w9] at hj
          rw [if_neg (by omega)]
          exact r1 j v hj
        · subst w9
          rw [List.getElem?_append_right (Nat.le_refl _), Nat.sub_self] at hj
          rw [if_pos rfl]
          have : c = v := Option.some.inj hj
          rw [this]
        · rw [List.getElem?_eq_none (by rw [elen]; omega)] at hj
          cases hj
      · rw [up_at]
        by_cases z : wd = c / 32
        · rw [if_pos z]
          refine ⟨W ||| 2 ^ (c % 32), rfl, fun i hi => ?_⟩
          rw [bit_or_pow, w2 i hi, ← z]
          by_cases z2 : c % 32 = i
          · have : 32 * wd + i = c := by omega
            rw [this]
            simp [z2]
          · have : 32 * wd + i ≠ c := by omega
            simp [z2, this]
        · rw [if_neg z]
          obtain ⟨W', v1, v2⟩ := r2 wd hwd'
          refine ⟨W', v1, fun i hi => ?_⟩
          rw [v2 i hi]
          have : 32 * wd + i ≠ c := by omega
          simp [this]
theorem vis_len {mo : Nat} {qs : List Nat} {c : Nat} (hq : qs.length ≤ mo) : (vis mo qs c).length ≤ mo := by
  unfold vis
  split
  · exact hq
  · next z =>
    rw [List.length_append, List.length_singleton]
    rcases Nat.lt_or_ge qs.length mo with w | w
    · omega
    · exact absurd (Or.inr w) z
theorem s82 (cw : CW B M h) (hm : mo ∈ sizes)
    (k : ∀ h1 qu mk, CW B M h1 → CFr (fun a => a = 64) (fun _ => False) h h1 → VX h1 (hR h1 31 0) (hR h1 31 1) mo → VR qu mk [] → Q none (VHp h1 (hR h1 31 0) (hR h1 31 1) qu mk 0)) : WPM 82 [.ref 64, .int (nI mo)] h Q := by
  have hmo : mo ≤ 65536 := by
    have : ∀ x ∈ sizes, x ≤ 65536 := by decide
    exact this mo hm
  have a1 : hT h 64 = 10 := by simp only [cw.1]
  have o0 : OnlyI (fun a => a = 64) h (sI (sI h 64 4 (nI mo)) 64 3 0) := (OnlyI.sI (A := fun a => a = 64) OnlyI.rf _ rfl).sI _ rfl
  have cw0 := cw.ofI o0
  have b1 : hT (sI (sI h 64 4 (nI mo)) 64 3 0) 64 = 10 := by simp only [cw0.1]
  have b2 : hR (sI (sI h 64 4 (nI mo)) 64 3 0) 64 0 = 31 := by simp only [cw0.1]
  have b3 : hT (sI (sI h 64 4 (nI mo)) 64 3 0) 31 = 3 := by simp only [cw0.1]
  have b4 : hI (sI (sI h 64 4 (nI mo)) 64 3 0) 64 4 = nI mo := by rw [hI_sI, if_neg (by decide), hI_sI, if_pos ⟨rfl, rfl⟩]
  have b5 : hI (sI (sI h 64 4 (nI mo)) 64 3 0) 64 3 = 0 := by rw [hI_sI, if_pos ⟨rfl, rfl⟩]
  have cf0 : CFr (fun a => a = 64) (fun _ => False) h (sI (sI h 64 4 (nI mo)) 64 3 0) := CFr.ofI o0 fun a q => q
  rw [we82]
  simp only [w82, a1, hs_sI]
  have b2' : hR h 64 0 = 31 := by simp only [cw.1]
  have b3' : hT h 31 = 3 := by simp only [cw.1]
  simp only [w82, a1, b2', b3', hs_sI]
  generalize sI (sI h 64 4 (nI mo)) 64 3 0 = h0 at *
  refine row0w cw0 hm fun h2' cw2 cf2 le2 eo2 => ?_
  have c1 : hT h2' 64 = 10 := by simp only [cw2.1]
  have cw2' : CW B M (sR h2' 64 1 (hR h2' 31 0)) := cw2.setR (by decide)
  have c2 : hT (sR h2' 64 1 (hR h2' 31 0)) 64 = 10 := by simp only [cw2'.1]
  have c3 : hR (sR h2' 64 1 (hR h2' 31 0)) 64 0 = 31 := by simp only [cw2'.1]
  have c4 : hT (sR h2' 64 1 (hR h2' 31 0)) 31 = 3 := by simp only [cw2'.1]
  have cf2' : CFr (fun _ => False) (fun _ => False) h0 (sR h2' 64 1 (hR h2' 31 0)) := cf2.trans' (CFr.setR (by decide))
  have g1 : hR (sR h2' 64 1 (hR h2' 31 0)) 64 1 = hR (sR h2' 64 1 (hR h2' 31 0)) 31 0 := by rw [hR_sR, hR_sR, if_pos ⟨rfl, rfl⟩, if_neg (by decide)]
  have g3 : mo ≤ hL (sR h2' 64 1 (hR h2' 31 0)) (hR (sR h2' 64 1 (hR h2' 31 0)) 31 0) := by rw [hR_sR, if_neg (by decide)]; exact le2
  simp only [w82, c1, c2, c3, c4, Option.toList_some, List.cons_append, List.nil_append]
  generalize sR h2' 64 1 (hR h2' 31 0) = h3 at *
  refine row1w (n := 2048) cw2' (by decide) fun h5 cw5 cf5 le5 eo5 => ?_
  have b9 : hT h5 64 = 10 := by simp only [cw5.1]
  have cw5' : CW B M (sR h5 64 2 (hR h5 31 1)) := cw5.setR (by decide)
  have cf5' : CFr (fun _ => False) (fun _ => False) h0 (sR h5 64 2 (hR h5 31 1)) := (cf2'.trans' cf5).trans' (CFr.setR (by decide))
  have v0 : hR h5 31 0 = hR h3 31 0 := eo5 31 0 (by have := cw2'.c100; omega) (by decide)
  have q1 : hR (sR h5 64 2 (hR h5 31 1)) 64 1 = hR (sR h5 64 2 (hR h5 31 1)) 31 0 := by
    rw [hR_sR, hR_sR, if_neg (by decide), if_neg (by decide), eo5 64 1 (by have := cw2'.c100; omega) (by decide), v0]
    exact g1
  have q3 : hR (sR h5 64 2 (hR h5 31 1)) 64 2 = hR (sR h5 64 2 (hR h5 31 1)) 31 1 := by rw [hR_sR, hR_sR, if_pos ⟨rfl, rfl⟩, if_neg (by decide)]
  have q7 : mo ≤ hL (sR h5 64 2 (hR h5 31 1)) (hR (sR h5 64 2 (hR h5 31 1)) 31 0) := by
    rw [hR_sR, if_neg (by decide), v0]
    show mo ≤ hL h5 (hR h3 31 0)
    rw [(cf5.1.2.2.1 (hR h3 31 0) cw2'.bl.1).2.1]
    exact g3
  have q9 : 2048 ≤ hL (sR h5 64 2 (hR h5 31 1)) (hR (sR h5 64 2 (hR h5 31 1)) 31 1) := by rw [hR_sR, if_neg (by decide)]; exact le5
  simp only [w82, b9, Option.toList_some, List.cons_append, List.nil_append]
  generalize sR h5 64 2 (hR h5 31 1) = h6 at *
  have f64 := cw5'.far (a := 64) (by decide)
  have e64 : hI h6 64 = hI h0 64 := cf5'.keep cw0 (by decide) (by decide) id
  have x : VX h6 (hR h6 31 0) (hR h6 31 1) mo := ⟨⟨by simp only [cw5'.1], q1, q3, cw5'.tg.1, cw5'.tg.2.1, by rw [e64]; exact b4⟩, ⟨q7, cw5'.ln.1, q9, cw5'.ln.2.1⟩, ⟨cw5'.ap.1, Ne.symm f64.1, Ne.symm f64.2.1⟩, fun a ha => by have := cw5'.far (farA_iff.mpr (show a < 100 ∧ a ≠ 32 ∧ a ≠ 33 ∧ a ≠ 34 ∧ a ≠ 35 ∧ a ≠ 48 ∧ a ≠ 54 by omega)); exact ⟨this.1, this.2.1⟩⟩
  have hr := VHp_r (h := h6) x.2.2.1.1 x.2.2.1.2.1 x.2.2.1.2.2
  have hid : h6 = VHp h6 (hR h6 31 0) (hR h6 31 1) (hI h6 (hR h6 31 0)) (hI h6 (hR h6 31 1)) 0 := by
    refine ah_ext rfl rfl ?_ rfl rfl rfl rfl
    funext a
    rw [VHp_I]
    by_cases z1 : a = hR h6 31 0
    · rw [if_pos z1, z1]
    · rw [if_neg z1]
      by_cases z2 : a = hR h6 31 1
      · rw [if_pos z2, z2]
      · rw [if_neg z2]
        by_cases z3 : a = 64
        · rw [if_pos z3, z3]
          funext j
          rw [up_at]
          split
          · next w => rw [w, e64, b5]; rfl
          · rfl
        · rw [if_neg z3]
  have lp : ∀ d y mk, 2048 - y = d → y ≤ 2048 → (∀ i, i < y → mk i = 0) → WP 82 38 [.ref 64, .int (nI mo), .int (nI y)] [] (VHp h6 (hR h6 31 0) (hR h6 31 1) (hI h6 (hR h6 31 0)) mk 0) Q := by
    obtain ⟨⟨t1, t2, t3, t4, t5, t6⟩, ⟨l1, l2, l3, l4⟩, -, -⟩ := id x
    intro d
    induction d with
    | zero =>
      intro y mk hd hy hno
      have hle : (2048 : Int32) ≤ nI y := nI_le (a := 2048) (by omega) (by omega)
      rw [w82_38]
      simp only [w82, hle, true_implies, not_true_eq_false, false_implies, and_true]
      refine k h6 _ mk cw5' (cf0.trans cf5' (fun _ _ q => q.elim) (fun _ _ q => q)) x ⟨fun j v hj => by simp at hj, fun wd hwd => ⟨0, by rw [hno wd (by omega)]; rfl, fun i hi => by rw [Nat.zero_testBit]; simp⟩⟩
    | succ d ih =>
      intro y mk hd hy hno
      have hle : ¬ (2048 : Int32) ≤ nI y := nI_ge (b := 2048) (by omega) (by decide)
      have c1 : (nI y).toNatClampNeg = y := nI_clamp (by omega)
      have i1 : inb (nI y) (hL h6 (hR h6 31 1)) = true := inb_nI (by omega) (by omega)
      rw [w82_38]
      simp only [w82, hle, hr, t1, t3, t5, c1, i1, true_implies, not_false_eq_true, false_implies, true_and, nI_1]
      refine ih (y + 1) _ (by omega) (by omega) fun i hi => ?_
      rw [up_at]
      split
      · rfl
      · exact hno i (by omega)
  rw [hid]
  exact lp 2048 0 _ rfl (by omega) (fun i hi => absurd hi (Nat.not_lt_zero _))
end Visit

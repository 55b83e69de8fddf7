/-! ===== THE FACE: once, judge, spare ===== -/
theorem usN_bit {P : Nat → Nat} {nd k : Nat} : ∀ m j, (usN P nd k m).testBit j = (decide (j < m) && (decide (k < j) && ((P j).testBit k && nd.testBit j))) := by
  intro m
  induction m with
  | zero => intro j; show (0 : Nat).testBit j = _; simp
  | succ m ih =>
    intro j
    have e : usN P nd k (m + 1) = if k < m ∧ (P m).testBit k = true ∧ nd.testBit m = true then usN P nd k m ||| 2 ^ m else usN P nd k m := rfl
    rw [e]
    by_cases q : k < m ∧ (P m).testBit k = true ∧ nd.testBit m = true
    · rw [if_pos q, bit_or_pow, ih]
      by_cases z : m = j
      · subst z
        simp [q]
      · have : (j < m + 1) = (j < m) := by apply propext; omega
        simp [z, this]
    · rw [if_neg q, ih]
      by_cases z : j = m
      · subst z
        have : (decide (k < j) && ((P j).testBit k && nd.testBit j)) = false := by
          cases hb : (decide (k < j) && ((P j).testBit k && nd.testBit j)) with
          | false => rfl
          | true =>
            rw [Bool.and_eq_true, Bool.and_eq_true, decide_eq_true_eq] at hb
            exact absurd hb q
        rw [this]
        simp
      · have : (j < m + 1) = (j < m) := by apply propext; omega
        simp [this]
theorem usN_lt {P : Nat → Nat} {nd k : Nat} : ∀ m, usN P nd k m < 2 ^ m := by
  intro m
  refine Nat.lt_pow_two_of_testBit _ fun j hj => ?_
  rw [usN_bit]
  simp [show ¬ j < m by omega]
section Fg
variable {s : SG} {B M B' M' : Nat} {h h1 h2 : AH} {Q : Option Value → AH → Prop}
def znd (s : SG) : Nat := ndN (zQ s) (zw s) (zn s)
theorem zNd (ok : SOK s) : NdOK (zn s) (zQ s) (znd s) (zw s) (fun x => usN (zQ s) (znd s) x (zn s)) := by
  refine ⟨ok.1, ndN_lt2 ok.1 ok.2.1, ok.2.1, ndN_cl ok.1, fun x hx => ⟨usN_lt _, fun u => ?_⟩⟩
  show (usN (zQ s) (znd s) x (zn s)).testBit u = _
  rw [usN_bit]
  by_cases q : u < zn s
  · have hP := (ok.1.2 u q).1
    by_cases z : x < u
    · simp only [q, z, decide_true, Bool.true_and]
      rw [Bool.and_comm]
    · have : (zQ s u).testBit x = false := Nat.testBit_lt_two_pow (Nat.lt_of_lt_of_le hP (p2_le (by omega)))
      rw [this]
      simp
  · simp [q]
theorem ClS.no (x : ClS s B M h) : NetO h (hR h 2 2) (zn s) (zQ s) (znd s) (zw s) (fun y => usN (zQ s) (znd s) y (zn s)) := ⟨x.np, x.n2, x.2.1.2.2.1.1, fun k hk => (x.2.1.2.2.1.2 k hk).2.2.2.2.2⟩
theorem f121 (x : ClS s B M h) (y : MoS s h) (ok : SOK s) (v : Int32) : PrI 121 [.ref 2, .int v] 196 [.ref 67, .int v] s B M h := by
  have c0 := x.1.1
  unfold PrI
  rw [we121]
  by_cases q : (v = 0 ∨ v = 1) ∧ 0 < nI (zn s)
  · have hn0 := zpos ok q.2
    obtain ⟨w, hw, hv⟩ : ∃ w, w < 2 ∧ v = nI w := by
      rcases q.1 with z | z
      · exact ⟨0, by decide, by rw [z]; rfl⟩
      · exact ⟨1, by decide, by rw [z]; rfl⟩
    simp only [w121, c0, s138 x, if_pos q, mz, zz]
    rw [hv]
    refine s34 x.1 x.kn x.no (zNd ok) hw fun h1 B1 M1 hB g0 g3 cw1 cf1 ow => ?_
    simp only [w121, zz]
    refine ⟨_, rfl, ?_⟩
    have h2 := r47 x
    have h6 := r50 x
    have hO : ∀ a, a ≠ 60 → a ≠ 63 → ¬ orA a := fun a p q z => by unfold orA at z; omega
    have mm : MSm h h1 := cf1.msm x.1 (fun a p q => ⟨hO a (by omega) (by omega), by omega⟩)
    have y1 := y.keep mm
    refine s196 (nd := znd s) y1.1 y1.2.1.1 ok.1 hn0 ok.2.1 hw rfl fun h2 mo mw => ?_
    refine ⟨rfl, ?_⟩
    have cs := mo.csm (fun a z => by unfold moA at z; omega) (fun a z => by unfold moJ at z; omega)
    obtain ⟨rr, hrr⟩ : ∃ rr : List Nat × Nat, rr = (FO (zn s) (zQ s) (znd s) (zw s) w (LO (zn s) (zQ s) (znd s) (zw s) w (pc (znd s)) 0) (pc (znd s)) 0, PO (zn s) (zQ s) (znd s) (zw s) w (LO (zn s) (zQ s) (znd s) (zw s) w (pc (znd s)) 0) (pc (znd s)) 0) := ⟨_, rfl⟩
    have x1 : ClS (zsO s rr) B1 M1 h1 := ⟨cw1, x.2.1.cf cf1 x.1 (fun a ha => hO a (by omega) (by omega)), x.2.2.1.cf cf1 x.1 (hO 42 (by decide) (by decide)) (hO 43 (by decide) (by decide)) (hO 44 (by decide) (by decide)), x.2.2.2.1.cf cf1 x.1 (hO 50 (by decide) (by decide)) (hO _ (by omega) (by omega)) (by decide), by rw [hrr]; exact ow, x.2.2.2.2.2.cf cf1 x.1 (hO 47 (by decide) (by decide)) (hO _ (by omega) (by omega))⟩
    have y2 : MoS (zsO s rr) h2 := by
      obtain ⟨z0, z1, z6, z7, z8, z9, z10, z11, z12, z13⟩ := y1
      have n67 : ¬ moA 67 := by unfold moA; decide
      have sS : ∀ k, ¬ (k = 0 ∨ k = 39 ∨ k = 40) → ¬ moF k := fun k hk z => by unfold moF at z; omega
      have sA : ∀ k, ¬ (k = 87 ∨ k = 88) → ¬ moA k := fun k hk z => by unfold moA at z; omega
      refine ⟨mo.ms z0, z1.mo mo (sA 70 (by decide)) (sA 71 (by decide)) (sA 72 (by decide)) (sA 73 (by decide)) (sA 74 (by decide)) (by unfold moJ; decide), (mo.row (sA 68 (by decide)) (by decide)).trans z6, (mo.fld n67 (sS 2 (by decide))).trans z7, (mo.fld n67 (sS 15 (by decide))).trans z8, ?_, ?_, ?_, by rw [hrr]; exact mw, ?_⟩
      · unfold MPl; rw [mo.fld n67 (sS 49 (by decide)), mo.row (sA 95 (by decide)) (by decide)]; exact z9
      · unfold MSp; rw [mo.fld n67 (sS 56 (by decide)), mo.row (sA 98 (by decide)) (by decide)]; exact z10
      · unfold MRw; rw [mo.fld n67 (sS 31 (by decide)), mo.fldJ (by unfold moJ; decide) (by unfold moT; decide), mo.row (sA 83 (by decide)) (by decide)]; exact z11
      · rw [mo.fld n67 (sS 51 (by decide)), mo.fld n67 (sS 52 (by decide)), mo.fld n67 (sS 53 (by decide))]; exact z13
    have hbig : Big (zsO s rr) h2 := by
      show znd s + 1 ≤ hL h2 (hR h2 31 0) ∧ znd s + 1 ≤ hL h2 (hR h2 31 3)
      rw [cs.2.1, cs.2.2.1]
      exact ⟨g0, g3⟩
    have hph : ph (zsO s rr) h2 = if zL s = 0 then 0 else 1 := by
      unfold ph
      rw [if_pos hbig]
      rfl
    rcases hB with ⟨rfl, rfl⟩ | ⟨hB1, hB2, hB3⟩
    · refine ⟨zsO s rr, B1, M1, 0, x1.keep cs, y2, ok, by omega, by omega, ?_⟩
      rw [hph]
      unfold ph
      omega
    · refine ⟨zsO s rr, B1, M1, 1, x1.keep cs, y2, ok, by omega, by omega, ?_⟩
      have hnb : ¬ Big s h := fun z => by
        have z1 : znd s + 1 ≤ hL h (hR h 31 0) := z.1
        have z2 : znd s + 1 ≤ hL h (hR h 31 3) := z.2
        omega
      rw [hph]
      unfold ph
      rw [if_neg hnb]
      omega
  · have hq : ¬ ((0 ≤ v ∧ v ≤ 1) ∧ 0 < nI (zn s)) := fun z => q ⟨by
      obtain ⟨j, hj, rfl⟩ := nI_of (Int32.not_lt.mpr z.1.1)
      have := (nI_leI (b := 1) hj (by decide)).mp z.1.2
      rcases (show j = 0 ∨ j = 1 by omega) with rfl | rfl
      · exact Or.inl rfl
      · exact Or.inr rfl, z.2⟩
    simp only [w121, c0, s138 x, if_neg q, mz, zz]
    refine ⟨_, rfl, ?_⟩
    rw [s196f y.1 y.2.1.1.1 ok.1.1 hq]
    exact ⟨rfl, Nx.thr x y ok⟩
end Fg

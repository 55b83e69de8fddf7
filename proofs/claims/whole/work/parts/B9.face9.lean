/-! ===== THE FACE: count ===== -/
section Fk
variable {s : SG} {B M : Nat} {h h1 h2 : AH} {Q : Option Value → AH → Prop}
theorem i32_3 {v : Int32} (h0 : ¬ v = 0) (h1 : ¬ v = 1) (h2 : ¬ v = 2) : v.toInt < 0 ∨ 2 < v.toInt := by
  refine Classical.byContradiction fun q => ?_
  rcases (show v.toInt = 0 ∨ v.toInt = 1 ∨ v.toInt = 2 by omega) with y | y | y
  · exact h0 (Int32.toInt_inj.mp (y.trans (by decide)))
  · exact h1 (Int32.toInt_inj.mp (y.trans (by decide)))
  · exact h2 (Int32.toInt_inj.mp (y.trans (by decide)))
theorem ct135 : ct 135 1 = some (.tableswitch 48 0 2 #[27, 35, 43], 0, [27]) := by decide +kernel
theorem sw135 (ls st : List Value) (v : Int32) : WP 135 1 ls (.int v :: st) h Q ↔ WP 135 (if v = 0 then 28 else if v = 1 then 36 else if v = 2 then 44 else 49) ls st h Q := by
  by_cases q0 : v = 0
  · subst q0
    exact WP_0 ct135 (q := (28, ls, st)) rfl
  · by_cases q1 : v = 1
    · subst q1
      exact WP_0 ct135 (q := (36, ls, st)) rfl
    · by_cases q2 : v = 2
      · subst q2
        exact WP_0 ct135 (q := (44, ls, st)) rfl
      · rw [if_neg q0, if_neg q1, if_neg q2]
        refine WP_0 ct135 (q := (49, ls, st)) ?_
        show tsw 1 48 0 2 #[27, 35, 43] ls (.int v :: st) = _
        show (match (if v.toInt < 0 ∨ 2 < v.toInt then some (48 : Int) else (#[27, 35, 43] : Array Int)[(v.toInt - 0).toNat]?) with
          | some off => if 0 ≤ ((1 : Nat) : Int) + off then some ((((1 : Nat) : Int) + off).toNat, ls, st) else none
          | none => none) = _
        rw [if_pos (i32_3 q0 q1 q2)]
        rfl
theorem f135 (x : ClS s B M h) (y : MoS s h) (ok : SOK s) (v : Int32) : PrI 135 [.ref 2, .int v] 217 [.ref 67, .int v] s B M h := by
  have c0 := x.1.1
  have hn := x.net.1
  have n0 := x.n0
  have e1 := x.2.1.2.2.2.2.1
  have ep := x.2.2.1.1.1
  have key : WPM 135 [.ref 2, .int v] h (fun r h1 => r = some (.int (cnR (nI (zn s)) (nI (zP s).length) (nI (zL s)) v)) ∧ h1 = h) := by
    unfold cnR
    rw [we135]
    by_cases q0 : v = 0
    · rw [if_pos q0]
      simp only [w135, sw135, if_pos q0, c0, hn, n0, zz]
    · by_cases q1 : v = 1
      · rw [if_neg q0, if_pos q1]
        simp only [w135, sw135, if_neg q0, if_pos q1, c0, ep, zz]
      · by_cases q2 : v = 2
        · rw [if_neg q0, if_neg q1, if_pos q2]
          simp only [w135, sw135, if_neg q0, if_neg q1, if_pos q2, c0, e1, zz]
        · rw [if_neg q0, if_neg q1, if_neg q2]
          simp only [w135, sw135, if_neg q0, if_neg q1, if_neg q2, zz]
  unfold PrI
  rw [WPM_of key]
  refine ⟨_, rfl, ?_⟩
  rw [s217 y.1, y.2.1.1.1, y.2.2.2.2.2.1.1, y.2.2.2.1]
  exact ⟨rfl, Nx.thr x y ok⟩
theorem ct132 : ct 132 1 = some (.lookupswitch 43 #[(0, 27), (1, 35)], 0, [27]) := by decide +kernel
theorem sw132 (ls st : List Value) (v : Int32) : WP 132 1 ls (.int v :: st) h Q ↔ WP 132 (if v = 0 then 28 else if v = 1 then 36 else 44) ls st h Q := by
  by_cases q0 : v = 0
  · subst q0
    exact WP_0 ct132 (q := (28, ls, st)) rfl
  · by_cases q1 : v = 1
    · subst q1
      exact WP_0 ct132 (q := (36, ls, st)) rfl
    · rw [if_neg q0, if_neg q1]
      have e : Op.lookupswitch.offset [((0 : Int), (27 : Int)), (1, 35)] 43 v.toInt = 43 := by
        show (if (0 : Int) = v.toInt then (27 : Int) else if (1 : Int) = v.toInt then 35 else 43) = 43
        rw [if_neg (fun z => q0 (Int32.toInt_inj.mp (z.symm.trans (by decide)))), if_neg (fun z => q1 (Int32.toInt_inj.mp (z.symm.trans (by decide))))]
      refine WP_0 ct132 (q := (44, ls, st)) ?_
      show (if _ ∧ 0 ≤ ((1 : Nat) : Int) + Op.lookupswitch.offset [((0 : Int), (27 : Int)), (1, 35)] 43 v.toInt then some ((((1 : Nat) : Int) + Op.lookupswitch.offset [((0 : Int), (27 : Int)), (1, 35)] 43 v.toInt).toNat, ls, st) else none) = _
      rw [e]
      rfl
theorem f132 (x : ClS s B M h) (y : MoS s h) (ok : SOK s) (v : Int32) : PrI 132 [.ref 2, .int v] 214 [.ref 67, .int v] s B M h := by
  have c0 := x.1.1
  have em := x.2.2.1.2.2.1
  have ec := x.2.2.1.2.2.2
  have key : WPM 132 [.ref 2, .int v] h (fun r h1 => r = some (.int (if v = 0 then zM s else if v = 1 then zC s else -1)) ∧ h1 = h) := by
    rw [we132]
    by_cases q0 : v = 0
    · rw [if_pos q0]
      simp only [w132, sw132, if_pos q0, c0, em, zz]
    · by_cases q1 : v = 1
      · rw [if_neg q0, if_pos q1]
        simp only [w132, sw132, if_neg q0, if_pos q1, c0, ec, zz]
      · rw [if_neg q0, if_neg q1]
        simp only [w132, sw132, if_neg q0, if_neg q1, zz]
  have ej : jdR (hI h 67 51) (hI h 67 52) (hI h 67 53) v = if v = 0 then zM s else if v = 1 then zC s else -1 := by
    have h01 : (0 ≤ v ∧ v ≤ 1) ↔ (v = 0 ∨ v = 1) := by
      constructor
      · intro z
        obtain ⟨j, hj, rfl⟩ := nI_of (Int32.not_lt.mpr z.1)
        have := (nI_leI (b := 1) hj (by decide)).mp z.2
        rcases (show j = 0 ∨ j = 1 by omega) with rfl | rfl
        · exact Or.inl rfl
        · exact Or.inr rfl
      · rintro (rfl | rfl) <;> decide
    have n10 : ¬ (1 : Int32) = 0 := by decide
    unfold jdR
    rcases y.2.2.2.2.2.2.2.2.2 with ⟨z1, z2, z3⟩ | ⟨z1, z2, z3⟩
    · rw [z1, z2, z3, if_pos (Or.inl rfl)]
      split
      · rfl
      · split <;> rfl
    · rw [z1, z2, z3]
      by_cases q0 : v = 0
      · rw [if_neg (fun z => z.elim n10 (fun z => z (h01.mpr (Or.inl q0)))), if_pos q0, if_pos q0]
      · by_cases q1 : v = 1
        · rw [if_neg (fun z => z.elim n10 (fun z => z (h01.mpr (Or.inr q1)))), if_neg q0, if_neg q0, if_pos q1]
        · rw [if_pos (Or.inr (fun z => (h01.mp z).elim q0 q1)), if_neg q0, if_neg q1]
  unfold PrI
  rw [WPM_of key]
  refine ⟨_, rfl, ?_⟩
  rw [s214 y.1, ej]
  exact ⟨rfl, Nx.thr x y ok⟩
end Fk

/-! ===== THE LAW: its loop, its end, the room ===== -/
section Ll
variable {L : Nat} {xs : Nat → Int32} {h : AH} {Q : Option Value → AH → Prop}
theorem andX31 (x : Int32) : ∃ k, k ≤ 31 ∧ x &&& 31 = nI k := by
  obtain ⟨j, hj, e⟩ := pk_andE x (m := 31) 5 (by decide +kernel)
  exact ⟨j, Nat.le_of_lt_succ hj, e⟩
theorem ct219 : ct 219 40 = some (.tableswitch 1139 0 30 #[140, 213, 238, 251, 264, 332, 385, 453, 478, 515, 540, 554, 603, 640, 677, 714, 763, 788, 802, 827, 852, 877, 914, 927, 952, 965, 990, 1027, 1052, 1089, 1114], 0, [140]) := by decide +kernel
theorem lt_m6 {p : Nat} (h72 : L ≤ 3072) (hp : p ≤ 4000) : (nI L - 6 < nI p) ↔ L < p + 6 := by
  by_cases q : 6 ≤ L
  · obtain ⟨m, rfl⟩ : ∃ m, L = m + 6 := ⟨L - 6, by omega⟩
    have e : nI (m + 6) - 6 = nI m := by
      rw [← nI_add]
      exact Int32.add_sub_cancel _ _
    rw [e, nI_ltI (by omega) (by omega)]
    omega
  · have h0 : nI L - 6 < 0 := by
      rcases (show L = 0 ∨ L = 1 ∨ L = 2 ∨ L = 3 ∨ L = 4 ∨ L = 5 by omega) with z | z | z | z | z | z <;> subst z <;> decide +kernel
    have h1 : (0 : Int32) ≤ nI p := nI_pos' (by omega)
    have h2 : nI L - 6 < nI p := by
      rw [Int32.lt_iff_toInt_lt] at h0 ⊢
      rw [Int32.le_iff_toInt_le] at h1
      omega
    exact ⟨fun _ => by omega, fun _ => h2⟩
/-- what holds at the loop's head, j calls done -/
def IV (L : Nat) (xs : Nat → Int32) (j : Nat) (h : AH) : Prop := ∃ s B M g, ClS s B M h ∧ MoS s h ∧ SOK s ∧ hT h 1 = 110 ∧ hL h 1 = L ∧ hI h 1 = xs ∧ B ≤ 1330728 + 32768 * g + 6 * j ∧ M ≤ 100 + 2 * g + j ∧ 3 * g + ph s h ≤ j + 2
theorem ph2 (s : SG) (h : AH) (e : zL s = 0) : ph s h ≤ 2 := by
  unfold ph
  rw [if_pos e]
  split <;> omega
theorem IV.room {j : Nat} (v : IV L xs j h) (hj : j ≤ 512) : hN h ≤ 601026 ∧ hS h ≤ 7293034 := by
  obtain ⟨s, B, M, g, x, -, -, -, -, -, v1, v2, v3⟩ := v
  have hg : 3 * g ≤ 514 := by omega
  obtain ⟨r1, r2⟩ := x.1.2.2
  obtain ⟨d1, d2, d3, d4, d5, d6⟩ := x.1.2.1.2.2.1
  have a0 := Tt_le (hL h (hR h 31 0))
  have a1 := Ts_le (hL h (hR h 31 1))
  have a2 := Ts_le (hL h (hR h 31 2))
  have a3 := Ts_le (hL h (hR h 31 3))
  have a4 := Ts_le (hL h (hR h 47 2))
  have b0 := Uu_le (hL h (hR h 31 0))
  have b1 := Uu_le (hL h (hR h 31 1))
  have b2 := Uu_le (hL h (hR h 31 2))
  have b3 := Uu_le (hL h (hR h 31 3))
  have b4 := Uu_le (hL h (hR h 47 2))
  generalize Tt (hL h (hR h 31 0)) = c0 at r1 a0
  generalize Ts (hL h (hR h 31 1)) = c1 at r1 a1
  generalize Ts (hL h (hR h 31 2)) = c2 at r1 a2
  generalize Ts (hL h (hR h 31 3)) = c3 at r1 a3
  generalize Ts (hL h (hR h 47 2)) = c4 at r1 a4
  generalize Uu (hL h (hR h 31 0)) = e0 at r2 b0
  generalize Uu (hL h (hR h 31 1)) = e1 at r2 b1
  generalize Uu (hL h (hR h 31 2)) = e2 at r2 b2
  generalize Uu (hL h (hR h 31 3)) = e3 at r2 b3
  generalize Uu (hL h (hR h 47 2)) = e4 at r2 b4
  generalize hL h (hR h 50 6) = l6 at r1 r2 d6
  clear d1 d2 d3 d4 d5
  exact ⟨by omega, by omega⟩
theorem law_l (h72 : L ≤ 3072) : ∀ n j h u5 u6, L < 6 * j + 6 * n + 6 → 6 * j ≤ L → IV L xs j h → WP 219 23 [.ref 1, .ref 2, .ref 67, .ref 99, .int (nI (6 * j)), u5, u6] [] h (fun r h' => r = some (.int 1) ∧ hN h' ≤ 601026 ∧ hS h' ≤ 7293034) := by
  intro n
  induction n with
  | zero =>
    intro j h u5 u6 hn hj v
    have rm := v.room (by omega)
    obtain ⟨s, B, M, g, x, y, ok, t1, l1, i1, v1, v2, v3⟩ := v
    have c := (lt_m6 (L := L) (p := 6 * j) h72 (by omega)).mpr (by omega)
    have o1 : hT h 1 = 100 ∨ hT h 1 = 101 ∨ hT h 1 = 102 ∨ hT h 1 = 103 ∨ hT h 1 = 110 := Or.inr (Or.inr (Or.inr (Or.inr t1)))
    rw [w219_23]
    simp only [w219_a, w219_r, o1, l1, c, zz]
    exact rm
  | succ n ih =>
    intro j h u5 u6 hn hj v
    have rm := v.room (by omega)
    obtain ⟨s, B, M, g, x, y, ok, t1, l1, i1, v1, v2, v3⟩ := v
    have o1 : hT h 1 = 100 ∨ hT h 1 = 101 ∨ hT h 1 = 102 ∨ hT h 1 = 103 ∨ hT h 1 = 110 := Or.inr (Or.inr (Or.inr (Or.inr t1)))
    by_cases q : L < 6 * j + 6
    · have c := (lt_m6 (L := L) (p := 6 * j) h72 (by omega)).mpr q
      rw [w219_23]
      simp only [w219_a, w219_r, o1, l1, c, zz]
      exact rm
    · have c : ¬ nI L - 6 < nI (6 * j) := fun z => q ((lt_m6 h72 (by omega)).mp z)
      have o2 : hT h 1 = 100 ∨ hT h 1 = 110 := Or.inr t1
      have ib : inb (nI (6 * j)) L = true := inb_nI (by omega) (by omega)
      have ic : (nI (6 * j)).toNatClampNeg = 6 * j := nI_clamp (by omega)
      obtain ⟨k, hk, ek⟩ := andX31 (xs (6 * j))
      have hp : 6 * j + 6 ≤ L := by omega
      have K : ∀ h2 v5 v6, Nx s B M h h2 → K1 h h2 → WP 219 23 [.ref 1, .ref 2, .ref 67, .ref 99, .int (nI (6 * j + 6)), v5, v6] [] h2 (fun r h' => r = some (.int 1) ∧ hN h' ≤ 601026 ∧ hS h' ≤ 7293034) := fun h2 v5 v6 nx k1 => by
        obtain ⟨s', B', M', e, n1, n2, n3, n4, n5, n6⟩ := nx
        have h100 := x.1.c100
        obtain ⟨k2, k3, k4⟩ := k1
        obtain ⟨k5, k6⟩ := k4 (by omega) t1
        have := ih (j + 1) h2 v5 v6 (by omega) (by omega) ⟨s', B', M', g + e, n1, n2, n3, (k3 1 (by omega)).trans t1, k5.trans l1, k6.trans i1, by omega, by omega, by omega⟩
        rw [show 6 * (j + 1) = 6 * j + 6 by omega] at this
        exact this
      rw [w219_23]
      simp only [w219_a, o1, o2, l1, i1, c, ib, ic, ek, zz]
      match k, hk with
      | 0, _ => exact (WP_0 ct219 (q := (180, _, _)) rfl).mpr (lw0 x y ok t1 l1 i1 hp h72 K)
      | 1, _ => exact (WP_0 ct219 (q := (253, _, _)) rfl).mpr (lw1 x y ok t1 l1 i1 hp h72 K)
      | 2, _ => exact (WP_0 ct219 (q := (278, _, _)) rfl).mpr (lw2 x y ok t1 l1 i1 hp h72 K)
      | 3, _ => exact (WP_0 ct219 (q := (291, _, _)) rfl).mpr (lw3 x y ok t1 l1 i1 hp h72 K)
      | 4, _ => exact (WP_0 ct219 (q := (304, _, _)) rfl).mpr (lw4 x y ok t1 l1 i1 hp h72 K)
      | 5, _ =>
        refine (WP_0 ct219 (q := (372, _, _)) rfl).mpr ?_
        by_cases z : xs (6 * j + 2) = 0
        · exact lw5_false x y ok t1 l1 i1 hp h72 K z
        · exact lw5_true x y ok t1 l1 i1 hp h72 K z
      | 6, _ => exact (WP_0 ct219 (q := (425, _, _)) rfl).mpr (lw6 x y ok t1 l1 i1 hp h72 K)
      | 7, _ => exact (WP_0 ct219 (q := (493, _, _)) rfl).mpr (lw7 x y ok t1 l1 i1 hp h72 K)
      | 8, _ => exact (WP_0 ct219 (q := (518, _, _)) rfl).mpr (lw8 x y ok t1 l1 i1 hp h72 K)
      | 9, _ => exact (WP_0 ct219 (q := (555, _, _)) rfl).mpr (lw9 x y ok t1 l1 i1 hp h72 K)
      | 10, _ => exact (WP_0 ct219 (q := (580, _, _)) rfl).mpr (lw10 x y ok t1 l1 i1 hp h72 K)
      | 11, _ => exact (WP_0 ct219 (q := (594, _, _)) rfl).mpr (lw11 x y ok t1 l1 i1 hp h72 K)
      | 12, _ => exact (WP_0 ct219 (q := (643, _, _)) rfl).mpr (lw12 x y ok t1 l1 i1 hp h72 K)
      | 13, _ => exact (WP_0 ct219 (q := (680, _, _)) rfl).mpr (lw13 x y ok t1 l1 i1 hp h72 K)
      | 14, _ => exact (WP_0 ct219 (q := (717, _, _)) rfl).mpr (lw14 x y ok t1 l1 i1 hp h72 K)
      | 15, _ => exact (WP_0 ct219 (q := (754, _, _)) rfl).mpr (lw15 x y ok t1 l1 i1 hp h72 K)
      | 16, _ => exact (WP_0 ct219 (q := (803, _, _)) rfl).mpr (lw16 x y ok t1 l1 i1 hp h72 K)
      | 17, _ => exact (WP_0 ct219 (q := (828, _, _)) rfl).mpr (lw17 x y ok t1 l1 i1 hp h72 K)
      | 18, _ => exact (WP_0 ct219 (q := (842, _, _)) rfl).mpr (lw18 x y ok t1 l1 i1 hp h72 K)
      | 19, _ => exact (WP_0 ct219 (q := (867, _, _)) rfl).mpr (lw19 x y ok t1 l1 i1 hp h72 K)
      | 20, _ => exact (WP_0 ct219 (q := (892, _, _)) rfl).mpr (lw20 x y ok t1 l1 i1 hp h72 K)
      | 21, _ => exact (WP_0 ct219 (q := (917, _, _)) rfl).mpr (lw21 x y ok t1 l1 i1 hp h72 K)
      | 22, _ => exact (WP_0 ct219 (q := (954, _, _)) rfl).mpr (lw22 x y ok t1 l1 i1 hp h72 K)
      | 23, _ => exact (WP_0 ct219 (q := (967, _, _)) rfl).mpr (lw23 x y ok t1 l1 i1 hp h72 K)
      | 24, _ => exact (WP_0 ct219 (q := (992, _, _)) rfl).mpr (lw24 x y ok t1 l1 i1 hp h72 K)
      | 25, _ => exact (WP_0 ct219 (q := (1005, _, _)) rfl).mpr (lw25 x y ok t1 l1 i1 hp h72 K)
      | 26, _ => exact (WP_0 ct219 (q := (1030, _, _)) rfl).mpr (lw26 x y ok t1 l1 i1 hp h72 K)
      | 27, _ => exact (WP_0 ct219 (q := (1067, _, _)) rfl).mpr (lw27 x y ok t1 l1 i1 hp h72 K)
      | 28, _ => exact (WP_0 ct219 (q := (1092, _, _)) rfl).mpr (lw28 x y ok t1 l1 i1 hp h72 K)
      | 29, _ => exact (WP_0 ct219 (q := (1129, _, _)) rfl).mpr (lw29 x y ok t1 l1 i1 hp h72 K)
      | 30, _ => exact (WP_0 ct219 (q := (1154, _, _)) rfl).mpr (lw30 x y ok t1 l1 i1 hp h72 K)
      | 31, _ =>
        refine (WP_0 ct219 (q := (1179, _, _)) rfl).mpr ?_
        simp only [w219_r, nI_p6]
        refine K h u5 u6 ⟨s, B, M, 0, x, y, ok, by omega, by omega, by omega⟩ K1.rf
      | k + 32, hk => exact absurd hk (by omega)
theorem law_run (h72 : L ≤ 3072) : ∃ n h', run n lawC 0 (lent [.ref 1] 7) [] (h00 L xs) = some (some (.int 1), h') ∧ hN h' ≤ 601026 ∧ hS h' ≤ 7293034 := by
  have w : WP 219 0 [.ref 1, .retAddr 0, .retAddr 0, .retAddr 0, .retAddr 0, .retAddr 0, .retAddr 0] [] (h00 L xs) (fun r h' => r = some (.int 1) ∧ hN h' ≤ 601026 ∧ hS h' ≤ 7293034) := by
    refine init_ok fun h x y t1 l1 i1 => ?_
    have := law_l (xs := xs) h72 600 0 h (.retAddr 0) (.retAddr 0) (by omega) (Nat.zero_le _) ⟨s00, 1330728, 100, 0, x, y, sok00, t1, l1, i1, by omega, by omega, by have := ph2 s00 h rfl; omega⟩
    exact this
  obtain ⟨n, r, h', e, er, rm⟩ := w
  subst er
  exact ⟨n, h', e, rm⟩
end Ll

/-! ===== THE FACE: pairs of calls ===== -/
def PrI (c : Nat) (av : List Value) (c' : Nat) (av' : List Value) (s : SG) (B M : Nat) (h : AH) : Prop := WPM c av h (fun r h1 => ∃ u, r = some (.int u) ∧ WPM c' av' h1 (fun r' h2 => r' = some (.int u) ∧ Nx s B M h h2))
def PrJ (c : Nat) (av : List Value) (c' : Nat) (av' : List Value) (s : SG) (B M : Nat) (h : AH) : Prop := WPM c av h (fun r h1 => ∃ u, r = some (.long u) ∧ WPM c' av' h1 (fun r' h2 => r' = some (.long u) ∧ Nx s B M h h2))
/-- what a frame of the reference must leave alone -/
def mset (A S J T : Nat → Prop) : Prop := (¬ A 67 ∧ ¬ A 68 ∧ ¬ A 70 ∧ ¬ A 71 ∧ ¬ A 72 ∧ ¬ A 73 ∧ ¬ A 74 ∧ ¬ A 83 ∧ ¬ A 88 ∧ ¬ A 95 ∧ ¬ A 98) ∧ (¬ S 2 ∧ ¬ S 15 ∧ ¬ S 31 ∧ ¬ S 40 ∧ ¬ S 49 ∧ ¬ S 51 ∧ ¬ S 52 ∧ ¬ S 53 ∧ ¬ S 56) ∧ ¬ J 67 ∧ ¬ J 69 ∧ ¬ T 32 ∧ ¬ T 41
section Fc
variable {s : SG} {B M : Nat} {h h1 h2 : AH} {A S J T : Nat → Prop}
theorem MN.mo {d : Dt} (m : MO A S J T h h1) (y : MN d h) (a70 : ¬ A 70) (a71 : ¬ A 71) (a72 : ¬ A 72) (a73 : ¬ A 73) (a74 : ¬ A 74) (j69 : ¬ J 69) : MN d h1 := by
  unfold MN MNt at y ⊢
  rw [m.row a70 (by decide), m.row a71 (by decide), m.row a72 (by decide), m.row a73 (by decide), m.row a74 (by decide), m.rowJ j69 (by decide)]
  exact y
theorem MoS.mo (m : MO A S J T h h1) (k : mset A S J T) (y : MoS s h) : MoS s h1 := by
  obtain ⟨⟨a67, a68, a70, a71, a72, a73, a74, a83, a88, a95, a98⟩, ⟨s2, s15, s31, s40, s49, s51, s52, s53, s56⟩, j67, j69, t32, t41⟩ := k
  obtain ⟨y0, y1, y6, y7, y8, y9, y10, y11, y12, y13⟩ := y
  refine ⟨m.ms y0, y1.mo m a70 a71 a72 a73 a74 j69, by rw [m.row a68 (by decide)]; exact y6, by rw [m.fld a67 s2]; exact y7, by rw [m.fld a67 s15]; exact y8, ?_, ?_, ?_, ?_, by rw [m.fld a67 s51, m.fld a67 s52, m.fld a67 s53]; exact y13⟩
  · unfold MPl; rw [m.fld a67 s49, m.row a95 (by decide)]; exact y9
  · unfold MSp; rw [m.fld a67 s56, m.row a98 (by decide)]; exact y10
  · unfold MRw; rw [m.fld a67 s31, m.fldJ j67 t32, m.row a83 (by decide)]; exact y11
  · unfold MOw; rw [m.fld a67 s40, m.fldJ j67 t41, m.row a88 (by decide)]; exact y12
/-- thrown alone -/
theorem mo_thr (h : AH) (v : Int32) : MO nP mbS nP nP h (sI h 67 0 v) := MO.rf.sI67 v rfl
theorem ms_thr : mset nP mbS nP nP := by unfold mset nP mbS; exact ⟨⟨id, id, id, id, id, id, id, id, id, id, id⟩, by omega, id, id, id, id⟩
theorem csm_thr (h : AH) (v : Int32) : CSm h (sI h 67 0 v) := (mo_thr h v).csm (fun a z => z.elim) (fun a z => z.elim)
/-- the same state, both sides done -/
theorem Nx.same (x : ClS s B M h1) (y : MoS s h) (ok : SOK s) (mm : MSm h h1) (l0 : hL h (hR h 31 0) ≤ hL h1 (hR h1 31 0)) (l3 : hL h (hR h 31 3) ≤ hL h1 (hR h1 31 3)) (m : MO A S J T h1 h2) (k : mset A S J T) (hA : ∀ a, A a → 67 ≤ a ∧ a < 100) (hJ' : ∀ a, J a → 67 ≤ a ∧ a < 100) : Nx s B M h h2 := by
  have cs := m.csm hA hJ'
  refine ⟨s, B, M, 0, x.keep cs, (y.keep mm).mo m k, ok, by omega, by omega, ?_⟩
  have := ph_le (s := s) (s' := s) (h := h) (h' := h2) rfl (Nat.le_refl _) (by rw [cs.2.1, cs.2.2.1]; exact l0) (by rw [cs.2.1, cs.2.2.1]; exact l3)
  omega
/-- a call that changes nothing in the class and only `thrown` in the reference -/
theorem Nx.thr (x : ClS s B M h) (y : MoS s h) (ok : SOK s) : Nx s B M h (sI h 67 0 0) := Nx.same x y ok MSm.rf (Nat.le_refl _) (Nat.le_refl _) (mo_thr h 0) ms_thr (fun a z => z.elim) (fun a z => z.elim)
/-! what the class's NET is -/
theorem ClS.kn (x : ClS s B M h) : (hR h 2 2 = 4 ∨ hR h 2 2 = 15) := x.2.1.1.imp (fun q => q.1) (fun q => q.1)
theorem ClS.net (x : ClS s B M h) : F_net (hR h 2 2) h := by
  rcases x.kn with q | q
  · rw [q]; exact x.1.1.net4
  · rw [q]; exact x.1.1.net15
theorem ClS.n0 (x : ClS s B M h) : hI h (hR h 2 2) 0 = nI (zn s) := x.2.1.2.1.2.1
theorem ClS.n2 (x : ClS s B M h) : hI h (hR h 2 2) 2 = nI (zw s) := x.2.1.2.1.2.2.1
theorem ClS.np (x : ClS s B M h) : NetP h (hR h 2 2) (zn s) (zQ s) := ⟨x.net, x.n0, x.2.1.2.1.1, fun k hk => (x.2.1.2.1.2.2.2.2 k hk).2.2.2.2⟩
theorem ClS.nc (x : ClS s B M h) : ∀ k, k < zn s → hI h (hR h 2 2 + 2) k = nI (zc s k) ∧ zc s k ≤ 99 := fun k hk => ⟨(x.2.1.2.1.2.2.2.2 k hk).2.2.1, (x.2.1.2.1.2.2.2.2 k hk).2.2.2.1⟩
theorem t2 (x : ClS s B M h) : hT h 2 = 12 := by simp only [x.1.1]
variable {Q : Option Value → AH → Prop}
theorem s136 (x : ClS s B M h) (v : Int32) : WPM 136 [.ref 2, .int v] h Q ↔ Q (some (.int (if (0 ≤ v ∧ v ≤ 7) ∧ 0 < nI (zn s) then 1 else 0))) h := by
  have hn := x.net.1
  have n0 := x.n0
  have c0 := x.1.1
  rw [we136]
  by_cases q0 : nI (zn s) ≤ 0
  · have : ¬ 0 < nI (zn s) := Int32.not_lt.mpr q0
    rw [if_neg (fun z => this z.2)]
    simp only [w136, c0, hn, n0, q0, zz]
  · have q0' : 0 < nI (zn s) := Int32.not_le.mp q0
    by_cases q1 : v < 0
    · rw [if_neg (fun z => absurd q1 (Int32.not_lt.mpr z.1.1))]
      simp only [w136, c0, hn, n0, q0, q1, zz]
    · by_cases q2 : 7 < v
      · rw [if_neg (fun z => absurd q2 (Int32.not_lt.mpr z.1.2))]
        simp only [w136, c0, hn, n0, q0, q1, q2, zz]
      · rw [if_pos ⟨⟨Int32.not_lt.mp q1, Int32.not_lt.mp q2⟩, q0'⟩]
        simp only [w136, c0, hn, n0, q0, q1, q2, zz]
theorem s137 (x : ClS s B M h) (v u : Int32) : WPM 137 [.ref 2, .int v, .int u] h Q ↔ Q (some (.int (if (0 ≤ v ∧ v ≤ 7) ∧ (1 ≤ u ∧ u ≤ 14) ∧ 0 < nI (zn s) then 1 else 0))) h := by
  have c0 := x.1.1
  rw [we137]
  by_cases q : (0 ≤ v ∧ v ≤ 7) ∧ 0 < nI (zn s)
  · by_cases q1 : u < 1
    · rw [if_neg (fun z => absurd q1 (Int32.not_lt.mpr z.2.1.1))]
      simp only [w137, c0, s136 x, if_pos q, mz, q1, zz]
    · by_cases q2 : 14 < u
      · rw [if_neg (fun z => absurd q2 (Int32.not_lt.mpr z.2.1.2))]
        simp only [w137, c0, s136 x, if_pos q, mz, q1, q2, zz]
      · rw [if_pos ⟨q.1, ⟨Int32.not_lt.mp q1, Int32.not_lt.mp q2⟩, q.2⟩]
        simp only [w137, c0, s136 x, if_pos q, mz, q1, q2, zz]
  · rw [if_neg (fun z => q ⟨z.1, z.2.2⟩)]
    simp only [w137, c0, s136 x, if_neg q, mz, zz]
theorem s138 (x : ClS s B M h) (v : Int32) : WPM 138 [.ref 2, .int v] h Q ↔ Q (some (.int (if (v = 0 ∨ v = 1) ∧ 0 < nI (zn s) then 1 else 0))) h := by
  have hn := x.net.1
  have n0 := x.n0
  have c0 := x.1.1
  rw [we138]
  by_cases q0 : nI (zn s) ≤ 0
  · have : ¬ 0 < nI (zn s) := Int32.not_lt.mpr q0
    rw [if_neg (fun z => this z.2)]
    simp only [w138, c0, hn, n0, q0, zz]
  · have q0' : 0 < nI (zn s) := Int32.not_le.mp q0
    by_cases q1 : v = 0
    · rw [if_pos ⟨Or.inl q1, q0'⟩]
      simp only [w138, c0, hn, n0, q0, eq_true q1, zz]
    · by_cases q2 : v = 1
      · rw [if_pos ⟨Or.inr q2, q0'⟩]
        simp only [w138, c0, hn, n0, q0, eq_false q1, eq_true q2, zz]
      · rw [if_neg (fun z => z.1.elim q1 q2)]
        simp only [w138, c0, hn, n0, q0, eq_false q1, eq_false q2, zz]
theorem s139 (x : ClS s B M h) (v : Int32) : WPM 139 [.ref 2, .int v] h Q ↔ Q (some (.int (if (1 ≤ v ∧ v ≤ 8) ∧ 0 < zn s ∧ zn s ≤ 8 then 1 else 0))) h := by
  have hn := x.net.1
  have n0 := x.n0
  have c0 := x.1.1
  have hn14 := x.np.2.2.1
  have e0 : (nI (zn s) ≤ 0) ↔ zn s ≤ 0 := nI_leI (b := 0) (by omega) (by decide)
  have e8 : (8 < nI (zn s)) ↔ 8 < zn s := nI_ltI (a := 8) (by decide) (by omega)
  rw [we139]
  by_cases q0 : zn s ≤ 0
  · rw [if_neg (fun z => by omega)]
    simp only [w139, c0, hn, n0, e0, q0, zz]
  · by_cases q8 : 8 < zn s
    · rw [if_neg (fun z => by omega)]
      simp only [w139, c0, hn, n0, e0, q0, e8, q8, zz]
    · by_cases q1 : v < 1
      · rw [if_neg (fun z => absurd q1 (Int32.not_lt.mpr z.1.1))]
        simp only [w139, c0, hn, n0, e0, q0, e8, q8, q1, zz]
      · by_cases q2 : 8 < v
        · rw [if_neg (fun z => absurd q2 (Int32.not_lt.mpr z.1.2))]
          simp only [w139, c0, hn, n0, e0, q0, e8, q8, q1, q2, zz]
        · rw [if_pos ⟨⟨Int32.not_lt.mp q1, Int32.not_lt.mp q2⟩, by omega, by omega⟩]
          simp only [w139, c0, hn, n0, e0, q0, e8, q8, q1, q2, zz]
end Fc

/-! ===== THE FACE: searches over what is reached, acts, costs ===== -/
theorem way_of {v : Int32} (h : 0 ≤ v ∧ v ≤ 7) : ∃ w, w < 8 ∧ v = nI w := by
  obtain ⟨j, hj, rfl⟩ := nI_of (Int32.not_lt.mpr h.1)
  have := (nI_leI (b := 7) hj (by decide)).mp h.2
  exact ⟨j, by omega, rfl⟩
theorem bowl_of {u : Int32} (h : 1 ≤ u ∧ u ≤ 14) : ∃ b, 1 ≤ b ∧ b ≤ 14 ∧ u = nI b := by
  have h0 : ¬ u < 0 := fun z => by
    have := Int32.lt_of_le_of_lt h.1 z
    exact absurd this (by decide)
  obtain ⟨j, hj, rfl⟩ := nI_of h0
  have h1 := (nI_leI (a := 1) (by decide) hj).mp h.1
  have h2 := (nI_leI (b := 14) hj (by decide)).mp h.2
  exact ⟨j, h1, h2, rfl⟩
theorem few_of {u : Int32} {m : Nat} (hm : m ≤ 14) (h : 1 ≤ u ∧ u ≤ nI m) : ∃ b, 1 ≤ b ∧ b ≤ m ∧ u = nI b := by
  have h0 : ¬ u < 0 := fun z => by
    have := Int32.lt_of_le_of_lt h.1 z
    exact absurd this (by decide)
  obtain ⟨j, hj, rfl⟩ := nI_of h0
  have h1 := (nI_leI (a := 1) (by decide) hj).mp h.1
  have h2 := (nI_leI hj (by omega)).mp h.2
  exact ⟨j, h1, h2, rfl⟩
theorem th_of {k : Int32} {n : Nat} (hn : n ≤ 14) (h : 0 ≤ k ∧ k < nI n) : ∃ x, x < n ∧ k = nI x := by
  obtain ⟨j, hj, rfl⟩ := nI_of (Int32.not_lt.mpr h.1)
  have := (nI_ltI hj (by omega)).mp h.2
  exact ⟨j, this, rfl⟩
theorem waA_mod (w : Nat) (P : Nat → Nat) : waA (w % 4) P = waA w P := by
  funext x
  unfold waA tw
  rw [show w % 4 / 2 % 2 = w / 2 % 2 by omega]
theorem rowA_mod (w : Nat) (P : Nat → Nat) : rowA (w % 4) P = rowA w P := by
  funext x
  unfold rowA inA tw
  rw [show w % 4 / 2 % 2 = w / 2 % 2 by omega]
theorem acts_mod (n : Nat) (P : Nat → Nat) (w : Nat) : actsOf n P (w % 4) = actsOf n P w := by
  unfold actsOf
  rw [waA_mod, rowA_mod, show w % 4 % 2 = w % 2 by omega]
section Fd
variable {s : SG} {B M B' M' : Nat} {h h1 h2 : AH}
theorem zpos (ok : SOK s) (h : 0 < nI (zn s)) : 0 < zn s := (nI_ltI (a := 0) (by decide) (by have := ok.1.1; omega)).mp h
theorem zposI (ok : SOK s) (h : 0 < zn s) : 0 < nI (zn s) := (nI_ltI (a := 0) (by decide) (by have := ok.1.1; omega)).mpr h
theorem r47 (x : ClS s B M h) : hR h 47 2 = 48 ∨ 100 ≤ hR h 47 2 := x.1.2.1.2.2.2.2.1.2.2.2.2.1
theorem r50 (x : ClS s B M h) : hR h 50 6 = 54 ∨ 100 ≤ hR h 50 6 := x.1.2.1.2.2.2.2.1.2.2.2.2.2
/-- behind a search of the reach -/
theorem ClS.tr (x : ClS s B M h) (cw : CW B' M' h1) (cf : CFr (trI h) (fun _ => False) h h1) (rc : RC h1 (zn s) (zQ s)) : ClS s B' M' h1 ∧ MSm h h1 := by
  have h2 := r47 x
  have h6 := r50 x
  have hne : hR h 50 6 ≠ hR h 47 2 := fun z => x.1.ap.2.2.2.2.2.2.2.2.2.2.2.2.2.2 z.symm
  have hO : ∀ a, a ≤ 30 ∨ (42 ≤ a ∧ a ≤ 46) ∨ (49 ≤ a ∧ a < 100) → ¬ trI h a := fun a ha z => by
    unfold trI actA at z
    omega
  refine ⟨⟨cw, x.2.1.cf cf x.1 (fun a ha => hO a (Or.inl ha)), x.2.2.1.cf cf x.1 (hO 42 (by decide)) (hO 43 (by decide)) (hO 44 (by decide)), x.2.2.2.1.cf cf x.1 (hO 50 (by decide)) (fun z => ?_) (fun z => z), x.2.2.2.2.1.cf cf x.1 (hO 60 (by decide)) (hO 63 (by decide)) (fun z => z), rc⟩, cf.msm x.1 (fun a p q => ⟨hO a (by omega), fun z => z⟩)⟩
  unfold trI actA at z
  omega
/-- behind a search that leaves all -/
theorem ClS.al {A : Nat → Prop} (x : ClS s B M h) (cw : CW B' M' h1) (cf : CFr A (fun _ => False) h h1) (hA : ∀ a, A a → (36 ≤ a ∧ a ≤ 41) ∨ a = 55 ∨ a = 56 ∨ a = 64) : ClS s B' M' h1 ∧ MSm h h1 := by
  have h2 := r47 x
  have h6 := r50 x
  have hO : ∀ a, ¬ ((36 ≤ a ∧ a ≤ 41) ∨ a = 55 ∨ a = 56 ∨ a = 64) → ¬ A a := fun a ha z => ha (hA a z)
  exact ⟨⟨cw, x.2.1.cf cf x.1 (fun a ha => hO a (by omega)), x.2.2.1.cf cf x.1 (hO 42 (by decide)) (hO 43 (by decide)) (hO 44 (by decide)), x.2.2.2.1.cf cf x.1 (hO 50 (by decide)) (hO _ (by omega)) (fun z => z), x.2.2.2.2.1.cf cf x.1 (hO 60 (by decide)) (hO 63 (by decide)) (fun z => z), x.2.2.2.2.2.cf cf x.1 (hO 47 (by decide)) (hO _ (by omega))⟩, cf.msm x.1 (fun a p q => ⟨hO a (by omega), fun z => z⟩)⟩
theorem mf_set : mset mfA mfS nP nP := by unfold mset mfA mfS nP; exact ⟨by omega, by omega, id, id, id, id⟩
theorem mf_in : ∀ a, mfA a → 67 ≤ a ∧ a < 100 := fun a z => by unfold mfA at z; omega
theorem ml_set : mset mlA mfS nP nP := by unfold mset mlA mfS nP; exact ⟨by omega, by omega, id, id, id, id⟩
theorem ml_in : ∀ a, mlA a → 67 ≤ a ∧ a < 100 := fun a z => by unfold mlA at z; omega
theorem nP_in : ∀ a, nP a → 67 ≤ a ∧ a < 100 := fun a z => z.elim
theorem f112 (x : ClS s B M h) (y : MoS s h) (ok : SOK s) (v : Int32) : PrI 112 [.ref 2, .int v] 183 [.ref 67, .int v] s B M h := by
  have c0 := x.1.1
  have hk := x.net.1
  have n2 := x.n2
  unfold PrI
  rw [we112]
  by_cases q : (0 ≤ v ∧ v ≤ 7) ∧ 0 < nI (zn s)
  · obtain ⟨w, hw, rfl⟩ := way_of q.1
    have hn0 := zpos ok q.2
    have hw9 := s_lt ok.1.1 ok.2.1
    simp only [w112, c0, s136 x, if_pos q, mz, hk, n2, zz]
    refine s52 x.1 x.kn x.np ok.1 hw x.2.2.2.2.2 hw9 fun h1 r fe cw1 rc1 cf1 => ?_
    simp only [w112, zz]
    refine ⟨r, rfl, ?_⟩
    obtain ⟨x1, mm⟩ := x.tr cw1 cf1 rc1
    have y1 := y.keep mm
    refine s183 y1.1 y1.2.1.1 ok.1 hn0 hw (ok.2.2.1 hn0) ok.2.1 fun h2 r' fe' mf => ?_
    rw [acts_mod] at fe
    exact ⟨by rw [FE.uniq fe' (fe.to14 ok.1.1)], Nx.same x1 y ok mm cf1.2.2.2.2.2.2.2.2.2.2.2.1 cf1.2.2.2.2.2.2.2.2.2.2.2.2 mf mf_set mf_in nP_in⟩
  · simp only [w112, c0, s136 x, if_neg q, mz, zz]
    refine ⟨_, rfl, ?_⟩
    rw [s183f y.1 y.2.1.1.1 q]
    exact ⟨rfl, Nx.thr x y ok⟩
theorem f117 (x : ClS s B M h) (y : MoS s h) (ok : SOK s) (u v : Int32) : PrI 117 [.ref 2, .int u, .int v] 190 [.ref 67, .int u, .int v] s B M h := by
  have c0 := x.1.1
  have hk := x.net.1
  have n0 := x.n0
  unfold PrI
  rw [we117]
  by_cases q : (0 ≤ v ∧ v ≤ 7) ∧ 0 < nI (zn s)
  · by_cases q2 : 0 ≤ u ∧ u < nI (zn s)
    · obtain ⟨w, hw, rfl⟩ := way_of q.1
      obtain ⟨k, hk9, rfl⟩ := th_of ok.1.1 q2
      have hn14 := ok.1.1
      have pw : (1 : Int32) <<< (nI k &&& 31) = nI (2 ^ k) := nI_pow k (by omega)
      have h2k : 2 ^ k < 16384 := Nat.lt_of_lt_of_le (p2_lt hk9) (p2_le (n := 14) hn14)
      simp only [w117, c0, s136 x, if_pos q, mz, hk, s24 x.net, n0, if_pos q2, pw, zz]
      refine s52 x.1 x.kn x.np ok.1 hw x.2.2.2.2.2 h2k fun h1 r fe cw1 rc1 cf1 => ?_
      simp only [w117, zz]
      refine ⟨r, rfl, ?_⟩
      obtain ⟨x1, mm⟩ := x.tr cw1 cf1 rc1
      have y1 := y.keep mm
      refine s190 y1.1 y1.2.1.1 ok.1 hw hk9 fun h2 r' fe' mf => ?_
      rw [acts_mod] at fe
      exact ⟨by rw [FE.uniq fe' (fe.to14 ok.1.1)], Nx.same x1 y ok mm cf1.2.2.2.2.2.2.2.2.2.2.2.1 cf1.2.2.2.2.2.2.2.2.2.2.2.2 mf mf_set mf_in nP_in⟩
    · simp only [w117, c0, s136 x, if_pos q, mz, hk, s24 x.net, n0, if_neg q2, zz]
      refine ⟨_, rfl, ?_⟩
      rw [s190f y.1 y.2.1.1.1 ok.1.1 (fun z => q2 z.2)]
      exact ⟨rfl, Nx.thr x y ok⟩
  · simp only [w117, c0, s136 x, if_neg q, mz, zz]
    refine ⟨_, rfl, ?_⟩
    rw [s190f y.1 y.2.1.1.1 ok.1.1 (fun z => q z.1)]
    exact ⟨rfl, Nx.thr x y ok⟩
theorem f119 (x : ClS s B M h) (y : MoS s h) (ok : SOK s) (v u : Int32) : PrI 119 [.ref 2, .int v, .int u] 191 [.ref 67, .int v, .int u] s B M h := by
  have c0 := x.1.1
  unfold PrI
  rw [we119]
  by_cases q : (0 ≤ v ∧ v ≤ 7) ∧ (1 ≤ u ∧ u ≤ 14) ∧ 0 < nI (zn s)
  · have hn0 := zpos ok q.2.2
    have q' := q
    obtain ⟨w, hw, rfl⟩ := way_of q.1
    obtain ⟨b, hb1, hb, rfl⟩ := bowl_of q.2.1
    simp only [w119, c0, s137 x, if_pos q', mz, zz]
    refine s53 x.1 x.kn x.np ok.1 hw x.2.2.2.2.2 hb fun h1 r fe cw1 rc1 cf1 => ?_
    simp only [w119, zz]
    refine ⟨r, rfl, ?_⟩
    obtain ⟨x1, mm⟩ := x.tr cw1 cf1 rc1
    have y1 := y.keep mm
    refine s191 y1.1 y1.2.1.1 ok.1 hn0 hw hb1 hb ok.2.1 fun h2 r' fe' mf => ?_
    rw [acts_mod] at fe
    exact ⟨by rw [HowMany.uniq fe' fe], Nx.same x1 y ok mm cf1.2.2.2.2.2.2.2.2.2.2.2.1 cf1.2.2.2.2.2.2.2.2.2.2.2.2 mf mf_set mf_in nP_in⟩
  · simp only [w119, c0, s137 x, if_neg q, mz, zz]
    refine ⟨_, rfl, ?_⟩
    rw [s191f y.1 y.2.1.1.1 q]
    exact ⟨rfl, Nx.thr x y ok⟩
theorem f120 (x : ClS s B M h) (y : MoS s h) (ok : SOK s) (v u t : Int32) : PrI 120 [.ref 2, .int v, .int u, .int t] 192 [.ref 67, .int v, .int u, .int t] s B M h := by
  have c0 := x.1.1
  have hk := x.net.1
  have n0 := x.n0
  have hn14 := ok.1.1
  have pw : (1 : Int32) <<< (nI (zn s) &&& 31) = nI (2 ^ zn s) := nI_pow _ (by omega)
  unfold PrI
  rw [we120]
  by_cases q : (0 ≤ v ∧ v ≤ 7) ∧ (1 ≤ u ∧ u ≤ 14) ∧ 0 < nI (zn s)
  · by_cases q2 : t < 0
    · simp only [w120, c0, s137 x, if_pos q, mz, q2, zz]
      refine ⟨_, rfl, ?_⟩
      rw [s192f y.1 y.2.1.1.1 ok.1.1 (fun z => absurd q2 (Int32.not_lt.mpr z.2.1))]
      exact ⟨rfl, Nx.thr x y ok⟩
    · by_cases q3 : t < nI (2 ^ zn s)
      · have hn0 := zpos ok q.2.2
        have q' := q
        obtain ⟨w, hw, rfl⟩ := way_of q.1
        obtain ⟨b, hb1, hb, rfl⟩ := bowl_of q.2.1
        obtain ⟨f, hf9, rfl⟩ := nI_of q2
        have h2n : 2 ^ zn s ≤ 16384 := p2_le (n := 14) hn14
        have hf := (nI_ltI hf9 (by omega)).mp q3
        simp only [w120, c0, s137 x, if_pos q', mz, q2, hk, s25 x.net, n0, pw, q3, zz]
        refine s54 x.1 x.kn x.np ok.1 hw x.2.2.2.2.2 hb hf fun h1 r fe cw1 rc1 cf1 => ?_
        obtain ⟨x1, mm⟩ := x.tr cw1 cf1 rc1
        have y1 := y.keep mm
        rw [acts_mod] at fe
        have fin : ∀ r, (r = 1 ∧ Rch (actsOf (zn s) (zQ s) w) (2 ^ zn s) b f ∨ r = 0 ∧ ¬ Rch (actsOf (zn s) (zQ s) w) (2 ^ zn s) b f) → WPM 192 [.ref 67, .int (nI w), .int (nI b), .int (nI f)] h1 (fun r' h2 => r' = some (.int r) ∧ Nx s B M h h2) := fun r fe => by
          refine s192 y1.1 y1.2.1.1 ok.1 hn0 hw hb1 hb ok.2.1 hf fun h2 r' fe' mf => ?_
          refine ⟨?_, Nx.same x1 y ok mm cf1.2.2.2.2.2.2.2.2.2.2.2.1 cf1.2.2.2.2.2.2.2.2.2.2.2.2 mf mf_set mf_in nP_in⟩
          rcases fe with ⟨e, z⟩ | ⟨e, z⟩ <;> rcases fe' with ⟨e', z'⟩ | ⟨e', z'⟩
          · rw [e, e']
          · exact absurd z z'
          · exact absurd z' z
          · rw [e, e']
        rcases fe with ⟨rfl, z⟩ | ⟨rfl, z⟩
        · simp only [w120, mz, zz]
          exact ⟨1, rfl, fin 1 (Or.inl ⟨rfl, z⟩)⟩
        · simp only [w120, mz, zz]
          exact ⟨0, rfl, fin 0 (Or.inr ⟨rfl, z⟩)⟩
      · simp only [w120, c0, s137 x, if_pos q, mz, q2, hk, s25 x.net, n0, pw, q3, zz]
        refine ⟨_, rfl, ?_⟩
        rw [s192f y.1 y.2.1.1.1 ok.1.1 (fun z => q3 z.2.2)]
        exact ⟨rfl, Nx.thr x y ok⟩
  · simp only [w120, c0, s137 x, if_neg q, mz, zz]
    refine ⟨_, rfl, ?_⟩
    rw [s192f y.1 y.2.1.1.1 ok.1.1 (fun z => q z.1)]
    exact ⟨rfl, Nx.thr x y ok⟩
theorem f128 (x : ClS s B M h) (y : MoS s h) (ok : SOK s) (v : Int32) : PrI 128 [.ref 2, .int v] 208 [.ref 67, .int v] s B M h := by
  have c0 := x.1.1
  unfold PrI
  rw [we128]
  by_cases q : (0 ≤ v ∧ v ≤ 7) ∧ 0 < nI (zn s)
  · obtain ⟨w, hw, rfl⟩ := way_of q.1
    have hn0 := zpos ok q.2
    obtain ⟨R, hR1, hR2, hR3⟩ := x.2.1.2.1.2.2.2.1
    have hR9 := s_lt ok.1.1 hR2
    simp only [w128, c0, s136 x, if_pos q, mz, zz]
    refine s55 x.1 x.kn x.np ok.1 hw x.2.2.2.2.2 (ok.2.2.1 hn0) ok.2.1 hR1 (by omega) hR3 x.n2 fun h1 r c rk cw1 e47 cf1 => ?_
    simp only [w128, zz]
    refine ⟨r, rfl, ?_⟩
    obtain ⟨x1, mm⟩ := x.tr cw1 cf1 (Or.inl e47)
    have y1 := y.keep mm
    refine s208 y1.1 y1.2.1.1 (fun k hk => (y1.2.1.2.2 k hk).2.1) ok.1 hn0 hw (ok.2.2.1 hn0) ok.2.1 fun h2 r' c' rk' mf => ?_
    exact ⟨by rw [(RdK.uniq _ _ _ _ _ rk' rk).2], Nx.same x1 y ok mm cf1.2.2.2.2.2.2.2.2.2.2.2.1 cf1.2.2.2.2.2.2.2.2.2.2.2.2 mf mf_set mf_in nP_in⟩
  · simp only [w128, c0, s136 x, if_neg q, mz, zz]
    refine ⟨_, rfl, ?_⟩
    rw [s208f y.1 y.2.1.1.1 q]
    exact ⟨rfl, Nx.thr x y ok⟩
end Fd

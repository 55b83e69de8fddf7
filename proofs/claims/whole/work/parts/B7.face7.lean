/-! ===== THE FACE: order, feed ===== -/
section Fi
variable {s : SG} {B M B' M' : Nat} {h h1 h2 : AH} {Q : Option Value → AH → Prop}
theorem s109 (x : ClS s B M h) : WPM 109 [.ref 2] h Q ↔ Q (some (.int (nI (zL s)))) (sI h 2 1 0) := by
  have c0 := x.1.1
  have e1 := x.2.1.2.2.2.2.1
  rw [we109]
  simp only [w109, c0, e1]
theorem ClS.g60 {g : Nat → Int32} (x : ClS s B M h) (hg : ∀ j, j ≠ 3 → j ≠ 4 → g j = hI h 60 j) : ClS s B M (setI h 60 g) := by
  have o : OnlyI (fun a => a = 60) h (setI h 60 g) := ⟨rfl, rfl, rfl, rfl, rfl, rfl, fun a ha => by rw [hI_setI, if_neg ha]⟩
  have e : ∀ a, a ≠ 60 → hI (setI h 60 g) a = hI h a := fun a ha => by rw [hI_setI, if_neg ha]
  have hk := x.kn
  have h6 := r50 x
  have h2 := r47 x
  obtain ⟨x1, ⟨w1, w2, w3, w4, w5, w6, w7⟩, x3, x4, x5, x6⟩ := x
  refine ⟨x1.ofI o, ⟨w1, DrF.congr (fun j hj => e (hR h 2 2 + j) (by omega)) w2, NetF.congr (fun j hj => e (hR h 2 2 + j) (by omega)) w3, (e 3 (by decide)).trans w4, by rw [e 2 (by decide)]; exact w5, by rw [e 26 (by decide)]; exact w6, fun j hj => by rw [e 28 (by decide)]; exact w7 j hj⟩, ?_, ?_, ?_, ?_⟩
  · unfold CP PLn SPn at x3 ⊢
    rw [e 42 (by decide), e 43 (by decide), e 44 (by decide)]
    exact x3
  · unfold CR RW at x4 ⊢
    rw [e 50 (by decide), show hI (setI h 60 g) (hR (setI h 60 g) 50 6) = hI h (hR h 50 6) from e (hR h 50 6) (by omega)]
    exact x4
  · unfold CO OW at x5 ⊢
    rw [e 63 (by decide), hI_setI, if_pos rfl, hg 6 (by decide) (by decide)]
    exact x5
  · unfold CC RC RKn RLv at x6 ⊢
    rw [e 47 (by decide), show hI (setI h 60 g) (hR (setI h 60 g) 47 2) = hI h (hR h 47 2) from e (hR h 47 2) (by omega)]
    exact x6
theorem mt_set : mset nP (fun j => mtS j ∧ j ≠ 2) nP nP := by
  unfold mset nP mtS
  exact ⟨⟨id, id, id, id, id, id, id, id, id, id, id⟩, by omega, id, id, id, id⟩
theorem f124 (x : ClS s B M h) (y : MoS s h) (ok : SOK s) (v : Int32) : PrI 124 [.ref 2, .int v] 199 [.ref 67, .int v] s B M h := by
  have c0 := x.1.1
  have x0 := x.tl 0
  rw [nI_0] at x0
  have c1 := x0.1.1
  have mm := msm_tl h 0
  have y1 := y.keep mm
  have ok0 : SOK (zsL s 0) := ⟨ok.1, ok.2.1, ok.2.2.1, ok.2.2.2.1, Nat.zero_le _⟩
  have e0 : (0 : Int32) = nI 0 := nI_0.symm
  unfold PrI
  rw [we124]
  by_cases q : (v = 0 ∨ v = 1) ∧ 0 < nI (zn s)
  · have hn0 := zpos ok q.2
    obtain ⟨w, hw, hv⟩ : ∃ w, w < 2 ∧ v = nI w := by
      rcases q.1 with z | z
      · exact ⟨0, by decide, by rw [z]; rfl⟩
      · exact ⟨1, by decide, by rw [z]; rfl⟩
    have q1 : (v = 0 ∨ v = 1) ∧ 0 < nI (zn (zsL s 0)) := q
    simp only [w124, c0, s109 x, c1, s138 x0, if_pos q1, mz, zz]
    rw [hv]
    have hk := x0.kn
    refine s40 (len := zL s) x0.no (zNd ok0) hw (by omega) (by simp only [c1]) ⟨by simp only [c1], by simp only [c1]⟩ ok.2.2.2.2 fun g hg => ?_
    simp only [w124, zz]
    refine ⟨_, rfl, ?_⟩
    have x1 := x0.g60 hg
    have m1 : MSm h (setI (sI h 2 1 0) 60 g) := mm.trans (fun a p q => ⟨rfl, rfl, by rw [hI_setI, if_neg (by omega)], rfl, rfl⟩)
    have y2 := y.keep m1
    have e3 : hI (sI h 2 1 0) 3 = zT s := x0.2.1.2.2.2.1
    refine s199 (nd := znd s) y2.1 y2.2.1.1 ok.1 hn0 ok.2.1 hw y2.2.2.2.1 ok.2.2.2.2 (by rw [y2.2.2.1]; exact ok.2.2.2.1) rfl fun h2 mo e2 => ?_
    refine ⟨by rw [y2.2.2.1, e3]; rfl, ?_⟩
    exact Nx.of x1 (y2.tl mo (fun z => z) mt_set (by rw [e2]; exact e0)) ok0 rfl (Nat.zero_le _) (Nat.le_refl _) (Nat.le_refl _) (mo.csm nP_in nP_in)
  · have hq : ¬ ((0 ≤ v ∧ v ≤ 1) ∧ 0 < nI (zn s)) := fun z => q ⟨by
      obtain ⟨j, hj, rfl⟩ := nI_of (Int32.not_lt.mpr z.1.1)
      have := (nI_leI (b := 1) hj (by decide)).mp z.1.2
      rcases (show j = 0 ∨ j = 1 by omega) with rfl | rfl
      · exact Or.inl rfl
      · exact Or.inr rfl, z.2⟩
    have q1 : ¬ ((v = 0 ∨ v = 1) ∧ 0 < nI (zn (zsL s 0))) := q
    simp only [w124, c0, s109 x, c1, s138 x0, if_neg q1, mz, zz]
    refine ⟨_, rfl, ?_⟩
    refine s199f y1.1 y1.2.1.1.1 ok.1.1 hq fun h2 mo e2 => ?_
    exact ⟨rfl, Nx.of x0 (y1.tl mo (fun z => z) mt_set (by rw [e2]; exact e0)) ok0 rfl (Nat.zero_le _) (Nat.le_refl _) (Nat.le_refl _) (mo.csm nP_in nP_in)⟩
/-! feed -/
def TcH (h : AH) (t : Nat → Int32) (l : Nat) : AH := setI (setI h 2 (va_up (hI h 2) 1 (nI l))) 3 t
theorem TcH_r (h : AH) : ∀ t l, hT (TcH h t l) = hT h ∧ hL (TcH h t l) = hL h ∧ hR (TcH h t l) = hR h ∧ hI (TcH h t l) 2 1 = nI l ∧ hI (TcH h t l) 3 = t ∧ (∀ k v, sI (TcH h t l) 3 k v = TcH h (va_up t k v) l) ∧ sI (TcH h t l) 2 1 (nI (l + 1)) = TcH h t (l + 1) := by
  intro t l
  refine ⟨rfl, rfl, rfl, rfl, rfl, fun k v => sI_setI _ _ _ _ _, ?_⟩
  unfold TcH
  rw [sI_setI_o (by decide), sI_setI]
  congr 2
  funext j
  rw [up_at, up_at, up_at]
  by_cases q : j = 1
  · rw [if_pos q, if_pos q]
  · rw [if_neg q, if_neg q, if_neg q]
theorem put_1 {t : Nat → Int32} {l : Nat} {v k : Int32} (c0 : CS0 h) (hs : ¬ k < 0) (hl : l < 540) : WP 106 3 [.ref 2, .int v, .int k] [] (TcH h t l) Q ↔ WP 106 3 [.ref 2, .int v, .int (k + (-8))] [] (TcH h (va_up t l (by8 v k)) (l + 1)) Q := by
  have hr := TcH_r h
  have hle : ¬ (540 : Int32) ≤ nI l := nI_ge (b := 540) hl (by decide)
  have c1 : (nI l).toNatClampNeg = l := nI_clamp (by omega)
  have i1 : inb (nI l) 540 = true := inb_nI hl (by decide)
  rw [w106_3]
  simp only [w106, c0, hr, hs, hle, c1, i1, zz, nI_1]
  rfl
theorem s106 {t : Nat → Int32} {l : Nat} (c0 : CS0 h) (hl : l + 4 ≤ 540) (v : Int32) : WPM 106 [.ref 2, .int v] (TcH h t l) Q ↔ Q none (TcH h (put4 t l v) (l + 4)) := by
  have hr := TcH_r h
  rw [we106]
  simp only [w106]
  rw [put_1 c0 (by decide) (by omega), show (24 : Int32) + (-8) = 16 by decide, put_1 c0 (by decide) (by omega), show (16 : Int32) + (-8) = 8 by decide, put_1 c0 (by decide) (by omega), show (8 : Int32) + (-8) = 0 by decide, put_1 c0 (by decide) (by omega), show (0 : Int32) + (-8) = -8 by decide, w106_3]
  have hneg : (-8 : Int32) < 0 := by decide
  simp only [w106, hneg, zz]
  rfl
end Fi

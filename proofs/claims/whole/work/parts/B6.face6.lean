/-! ===== THE FACE: judge, spare, end, order ===== -/
def zsJ (s : SG) (m c : Int32) : SG := (s.1, s.2.1, s.2.2.1, s.2.2.2.1, s.2.2.2.2.1, s.2.2.2.2.2.1, s.2.2.2.2.2.2.1, s.2.2.2.2.2.2.2.1, m, c)
def zsK (s : SG) (k : List Nat) : SG := (s.1, s.2.1, s.2.2.1, s.2.2.2.1, k, s.2.2.2.2.2)
def zsL (s : SG) (l : Nat) : SG := (s.1, l, s.2.2)
section Fh
variable {s : SG} {B M B' M' : Nat} {h h1 h2 : AH} {Q : Option Value → AH → Prop} {A S J T : Nat → Prop}
/-- the same potential or less -/
theorem Nx.of {s' : SG} (x : ClS s' B M h1) (y : MoS s' h2) (ok : SOK s') (hD : zD s' = zD s) (hl : zL s' ≤ zL s) (l0 : hL h (hR h 31 0) ≤ hL h1 (hR h1 31 0)) (l3 : hL h (hR h 31 3) ≤ hL h1 (hR h1 31 3)) (cs : CSm h1 h2) : Nx s B M h h2 := by
  refine ⟨s', B, M, 0, x.keep cs, y, ok, by omega, by omega, ?_⟩
  have := ph_le (s := s) (s' := s') (h := h) (h' := h2) hD hl (by rw [cs.2.1, cs.2.2.1]; exact l0) (by rw [cs.2.1, cs.2.2.1]; exact l3)
  omega
theorem f131 (x : ClS s B M h) (y : MoS s h) (ok : SOK s) (v u : Int32) : PrI 131 [.ref 2, .int v, .int u] 213 [.ref 67, .int v, .int u] s B M h := by
  have c0 := x.1.1
  unfold PrI
  rw [we131]
  by_cases q : (0 ≤ v ∧ v ≤ 7) ∧ (1 ≤ u ∧ u ≤ 14) ∧ 0 < nI (zn s)
  · have hn0 := zpos ok q.2.2
    have q' := q
    obtain ⟨w, hw, rfl⟩ := way_of q.1
    obtain ⟨b, hb1, hb, rfl⟩ := bowl_of q.2.1
    have hw9 := s_lt ok.1.1 ok.2.1
    simp only [w131, c0, s137 x, if_pos q', mz, zz]
    refine s46 (C := zc s) x.1 x.kn x.np ok.1 hw (by omega) (by omega) x.n2 (fun k hk => (x.nc k hk).1) x.2.2.1.1 fun h1 cw1 cf1 e42 em ec => ?_
    simp only [w131, zz]
    refine ⟨_, rfl, ?_⟩
    have h2 := r47 x
    have h6 := r50 x
    have hO : ∀ a, ¬ ((36 ≤ a ∧ a ≤ 41) ∨ a = 42) → ¬ (actA a ∨ a = 42) := fun a p z => by unfold actA at z; omega
    have mm : MSm h h1 := cf1.msm x.1 (fun a p q => ⟨hO a (by omega), fun z => z⟩)
    have y1 := y.keep mm
    refine s213 (C := zc s) y1.1 y1.2.1.1 ok.1 (fun k hk => (y1.2.1.2.2 k hk).1) y1.2.2.2.2.2.1 hn0 hw hb1 hb ok.2.1 fun h2 mo e51 e52 e53 => ?_
    refine ⟨rfl, ?_⟩
    have cs := mo.csm (fun a z => by unfold mjA at z; omega) nP_in
    obtain ⟨mm1, hm1⟩ : ∃ t, t = nI (jW (actsOf (zn s) (zQ s) w) (2 ^ zn s) b (zc s) (zP s) 0 (0, 0, 0)).2.2.1 := ⟨_, rfl⟩
    obtain ⟨cc1, hc1⟩ : ∃ t, t = nI (jW (actsOf (zn s) (zQ s) w) (2 ^ zn s) b (zc s) (zP s) 0 (0, 0, 0)).2.2.2 := ⟨_, rfl⟩
    have e43 : hI h1 43 = hI h 43 := cf1.keep x.1 (by decide) (by decide) (hO 43 (by decide))
    have e44 : hI h1 44 = hI h 44 := cf1.keep x.1 (by decide) (by decide) (hO 44 (by decide))
    have x1 : ClS (zsJ s mm1 cc1) B M h1 := by
      refine ⟨cw1, x.2.1.cf cf1 x.1 (fun a ha => hO a (by omega)), ⟨?_, ?_, em.trans hm1.symm, ec.trans hc1.symm⟩, x.2.2.2.1.cf cf1 x.1 (hO 50 (by decide)) (hO _ (by omega)) (fun z => z), x.2.2.2.2.1.cf cf1 x.1 (hO 60 (by decide)) (hO 63 (by decide)) (fun z => z), x.2.2.2.2.2.cf cf1 x.1 (hO 47 (by decide)) (hO _ (by omega))⟩
      · unfold PLn; rw [e42 3 (by decide) (by decide), e43]; exact x.2.2.1.1
      · unfold SPn; rw [e42 7 (by decide) (by decide), e44]; exact x.2.2.1.2.1
    have y2 : MoS (zsJ s mm1 cc1) h2 := by
      obtain ⟨z0, z1, z6, z7, z8, z9, z10, z11, z12, z13⟩ := y1
      have n67 : ¬ mjA 67 := by unfold mjA; decide
      have sS : ∀ k, ¬ (k = 0 ∨ k = 23 ∨ k = 24 ∨ k = 25 ∨ k = 51 ∨ k = 52 ∨ k = 53) → ¬ mjS k := fun k hk z => by unfold mjS at z; omega
      have sA : ∀ k, ¬ k = 79 → ¬ mjA k := fun k hk z => by unfold mjA at z; omega
      refine ⟨mo.ms z0, z1.mo mo (sA 70 (by decide)) (sA 71 (by decide)) (sA 72 (by decide)) (sA 73 (by decide)) (sA 74 (by decide)) (fun z => z), (mo.row (sA 68 (by decide)) (by decide)).trans z6, (mo.fld n67 (sS 2 (by decide))).trans z7, (mo.fld n67 (sS 15 (by decide))).trans z8, ?_, ?_, ?_, ?_, Or.inr ⟨e51, e52.trans hm1.symm, e53.trans hc1.symm⟩⟩
      · unfold MPl; rw [mo.fld n67 (sS 49 (by decide)), mo.row (sA 95 (by decide)) (by decide)]; exact z9
      · unfold MSp; rw [mo.fld n67 (sS 56 (by decide)), mo.row (sA 98 (by decide)) (by decide)]; exact z10
      · unfold MRw; rw [mo.fld n67 (sS 31 (by decide)), mo.fldJ (fun z => z) (fun z => z), mo.row (sA 83 (by decide)) (by decide)]; exact z11
      · unfold MOw; rw [mo.fld n67 (sS 40 (by decide)), mo.fldJ (fun z => z) (fun z => z), mo.row (sA 88 (by decide)) (by decide)]; exact z12
    exact Nx.of x1 y2 ok rfl (Nat.le_refl _) cf1.2.2.2.2.2.2.2.2.2.2.2.1 cf1.2.2.2.2.2.2.2.2.2.2.2.2 cs
  · simp only [w131, c0, s137 x, if_neg q, mz, zz]
    refine ⟨_, rfl, ?_⟩
    rw [s213f y.1 y.2.1.1.1 q]
    exact ⟨rfl, Nx.thr x y ok⟩
theorem f133 (x : ClS s B M h) (y : MoS s h) (ok : SOK s) (v u : Int32) : PrI 133 [.ref 2, .int v, .int u] 215 [.ref 67, .int v, .int u] s B M h := by
  have c0 := x.1.1
  unfold PrI
  rw [we133]
  by_cases q : (0 ≤ v ∧ v ≤ 7) ∧ (1 ≤ u ∧ u ≤ 14) ∧ 0 < nI (zn s)
  · have hn0 := zpos ok q.2.2
    have q' := q
    obtain ⟨w, hw, rfl⟩ := way_of q.1
    obtain ⟨b, hb1, hb, rfl⟩ := bowl_of q.2.1
    have hw9 := s_lt ok.1.1 ok.2.1
    have h2 := r47 x
    have h6 := r50 x
    have hO : ∀ a, ¬ ((36 ≤ a ∧ a ≤ 41) ∨ a = 42 ∨ a = 44) → ¬ thA a := fun a p z => by unfold thA actA at z; omega
    simp only [w133, c0, s137 x, if_pos q', mz, zz]
    refine s47 x.1 x.kn x.np ok.1 hw (by omega) (by omega) x.n2 x.2.2.1.1 (fun h1 hkp cw1 cf1 e42 e44 => ?_) (fun h1 hkp cw1 cf1 e42 sp => ?_)
    · simp only [w133, zz]
      refine ⟨_, rfl, ?_⟩
      have mm : MSm h h1 := cf1.msm x.1 (fun a p q => ⟨hO a (by omega), fun z => z⟩)
      have y1 := y.keep mm
      have e43 : hI h1 43 = hI h 43 := cf1.keep x.1 (by decide) (by decide) (hO 43 (by decide))
      have x1 : ClS s B M h1 := by
        refine ⟨cw1, x.2.1.cf cf1 x.1 (fun a ha => hO a (by omega)), ?_, x.2.2.2.1.cf cf1 x.1 (hO 50 (by decide)) (hO _ (by omega)) (fun z => z), x.2.2.2.2.1.cf cf1 x.1 (hO 60 (by decide)) (hO 63 (by decide)) (fun z => z), x.2.2.2.2.2.cf cf1 x.1 (hO 47 (by decide)) (hO _ (by omega))⟩
        unfold CP PLn SPn
        rw [e42, e43, e44]
        exact x.2.2.1
      refine s215 y1.1 y1.2.1.1 ok.1 y1.2.2.2.2.2.1 hn0 hw hb1 hb ok.2.1 (fun h2 hk2 mo => ?_) (fun h2 hk2 mo sp => ?_)
      · refine ⟨rfl, Nx.same x1 y ok mm cf1.2.2.2.2.2.2.2.2.2.2.2.1 cf1.2.2.2.2.2.2.2.2.2.2.2.2 mo ?_ (fun a z => by unfold mqA' at z; omega) nP_in⟩
        unfold mset mqA' mqS' nP
        exact ⟨by omega, by omega, id, id, id, id⟩
      · have h9 : kp (actsOf (zn s) (zQ s) w) (2 ^ zn s) b (isEndB w (zw s)) (zP s) 0 < 1000 := hk2
        have h8 : 1000 ≤ kp (actsOf (zn s) (zQ s) w) (2 ^ zn s) b (isEndB w (zw s)) (zP s) 0 := hkp
        omega
    · simp only [w133, zz]
      refine ⟨_, rfl, ?_⟩
      have mm : MSm h h1 := cf1.msm x.1 (fun a p q => ⟨hO a (by omega), fun z => z⟩)
      have y1 := y.keep mm
      have e43 : hI h1 43 = hI h 43 := cf1.keep x.1 (by decide) (by decide) (hO 43 (by decide))
      refine s215 y1.1 y1.2.1.1 ok.1 y1.2.2.2.2.2.1 hn0 hw hb1 hb ok.2.1 (fun h2 hk2 mo => ?_) (fun h2 hk2 mo ms2 => ?_)
      · have h9 : 1000 ≤ kp (actsOf (zn s) (zQ s) w) (2 ^ zn s) b (isEndB w (zw s)) (zP s) 0 := hk2
        have h8 : kp (actsOf (zn s) (zQ s) w) (2 ^ zn s) b (isEndB w (zw s)) (zP s) 0 < 1000 := hkp
        omega
      · refine ⟨rfl, ?_⟩
        have cs := mo.csm (fun a z => by unfold mqA at z; omega) nP_in
        obtain ⟨ks, hks⟩ : ∃ ks, ks = fl (actsOf (zn s) (zQ s) w) (2 ^ zn s) b (isEndB w (zw s)) (zP s) 0 0 := ⟨_, rfl⟩
        have x1 : ClS (zsK s ks) B M h1 := by
          refine ⟨cw1, x.2.1.cf cf1 x.1 (fun a ha => hO a (by omega)), ⟨?_, by rw [hks]; exact sp, (e42 4 (by decide)).trans x.2.2.1.2.2.1, (e42 5 (by decide)).trans x.2.2.1.2.2.2⟩, x.2.2.2.1.cf cf1 x.1 (hO 50 (by decide)) (hO _ (by omega)) (fun z => z), x.2.2.2.2.1.cf cf1 x.1 (hO 60 (by decide)) (hO 63 (by decide)) (fun z => z), x.2.2.2.2.2.cf cf1 x.1 (hO 47 (by decide)) (hO _ (by omega))⟩
          unfold PLn; rw [e42 3 (by decide), e43]; exact x.2.2.1.1
        have y2 : MoS (zsK s ks) h2 := by
          obtain ⟨z0, z1, z6, z7, z8, z9, z10, z11, z12, z13⟩ := y1
          have n67 : ¬ mqA 67 := by unfold mqA; decide
          have sS : ∀ k, ¬ (k = 0 ∨ k = 23 ∨ k = 24 ∨ k = 25 ∨ k = 56) → ¬ mqS k := fun k hk z => by unfold mqS at z; omega
          have sA : ∀ k, ¬ (k = 79 ∨ k = 97 ∨ k = 98) → ¬ mqA k := fun k hk z => by unfold mqA at z; omega
          refine ⟨mo.ms z0, z1.mo mo (sA 70 (by decide)) (sA 71 (by decide)) (sA 72 (by decide)) (sA 73 (by decide)) (sA 74 (by decide)) (fun z => z), (mo.row (sA 68 (by decide)) (by decide)).trans z6, (mo.fld n67 (sS 2 (by decide))).trans z7, (mo.fld n67 (sS 15 (by decide))).trans z8, ?_, by rw [hks]; exact ms2, ?_, ?_, ?_⟩
          · unfold MPl; rw [mo.fld n67 (sS 49 (by decide)), mo.row (sA 95 (by decide)) (by decide)]; exact z9
          · unfold MRw; rw [mo.fld n67 (sS 31 (by decide)), mo.fldJ (fun z => z) (fun z => z), mo.row (sA 83 (by decide)) (by decide)]; exact z11
          · unfold MOw; rw [mo.fld n67 (sS 40 (by decide)), mo.fldJ (fun z => z) (fun z => z), mo.row (sA 88 (by decide)) (by decide)]; exact z12
          · rw [mo.fld n67 (sS 51 (by decide)), mo.fld n67 (sS 52 (by decide)), mo.fld n67 (sS 53 (by decide))]; exact z13
        exact Nx.of x1 y2 ok rfl (Nat.le_refl _) cf1.2.2.2.2.2.2.2.2.2.2.2.1 cf1.2.2.2.2.2.2.2.2.2.2.2.2 cs
  · simp only [w133, c0, s137 x, if_neg q, mz, zz]
    refine ⟨_, rfl, ?_⟩
    rw [s215f y.1 y.2.1.1.1 q]
    exact ⟨rfl, Nx.thr x y ok⟩
/-- the tape's length alone -/
theorem ClS.tl (x : ClS s B M h) (l : Nat) : ClS (zsL s l) B M (sI h 2 1 (nI l)) := by
  have o : OnlyI (fun a => a = 2) h (sI h 2 1 (nI l)) := OnlyI.sI (A := fun a => a = 2) OnlyI.rf _ rfl
  have e : ∀ a, a ≠ 2 → hI (sI h 2 1 (nI l)) a = hI h a := fun a ha => hI_sI_o ha
  have hk := x.kn
  have h6 := r50 x
  have h2 := r47 x
  obtain ⟨x1, ⟨w1, w2, w3, w4, w5, w6, w7⟩, x3, x4, x5, x6⟩ := x
  refine ⟨x1.ofI o, ⟨w1, DrF.congr (fun j hj => e (hR h 2 2 + j) (by omega)) w2, NetF.congr (fun j hj => e (hR h 2 2 + j) (by omega)) w3, (e 3 (by decide)).trans w4, by rw [hI_sI, if_pos ⟨rfl, rfl⟩]; rfl, by rw [e 26 (by decide)]; exact w6, fun j hj => by rw [e 28 (by decide)]; exact w7 j hj⟩, ?_, ?_, ?_, ?_⟩
  · show CP s _
    unfold CP PLn SPn at x3 ⊢
    rw [e 42 (by decide), e 43 (by decide), e 44 (by decide)]
    exact x3
  · show RW _ _ _
    unfold CR RW at x4
    unfold RW
    rw [e 50 (by decide), show hI (sI h 2 1 (nI l)) (hR (sI h 2 1 (nI l)) 50 6) = hI h (hR h 50 6) from e (hR h 50 6) (by omega)]
    exact x4
  · show OW _ _ _
    unfold CO OW at x5
    unfold OW
    rw [e 60 (by decide), e 63 (by decide)]
    exact x5
  · show RC _ _ _
    unfold CC RC RKn RLv at x6
    unfold RC RKn RLv
    rw [e 47 (by decide), show hI (sI h 2 1 (nI l)) (hR (sI h 2 1 (nI l)) 47 2) = hI h (hR h 47 2) from e (hR h 47 2) (by omega)]
    exact x6
theorem msm_tl (h : AH) (v : Int32) : MSm h (sI h 2 1 v) := fun a p q => ⟨rfl, rfl, hI_sI_o (by omega), rfl, rfl⟩
theorem MoS.tl {l : Nat} (y : MoS s h) (m : MO A S J T h h1) (a67 : ¬ A 67) (k : mset A (fun j => S j ∧ j ≠ 2) J T) (e2 : hI h1 67 2 = nI l) : MoS (zsL s l) h1 := by
  obtain ⟨⟨-, a68, a70, a71, a72, a73, a74, a83, a88, a95, a98⟩, ⟨s2, s15, s31, s40, s49, s51, s52, s53, s56⟩, j67, j69, t32, t41⟩ := k
  have sS : ∀ k, k ≠ 2 → ¬ (S k ∧ k ≠ 2) → ¬ S k := fun k hk z q => z ⟨q, hk⟩
  obtain ⟨y0, y1, y6, y7, y8, y9, y10, y11, y12, y13⟩ := y
  refine ⟨m.ms y0, y1.mo m a70 a71 a72 a73 a74 j69, (m.row a68 (by decide)).trans y6, e2, (m.fld a67 (sS 15 (by decide) s15)).trans y8, ?_, ?_, ?_, ?_, ?_⟩
  · unfold MPl; rw [m.fld a67 (sS 49 (by decide) s49), m.row a95 (by decide)]; exact y9
  · unfold MSp; rw [m.fld a67 (sS 56 (by decide) s56), m.row a98 (by decide)]; exact y10
  · unfold MRw; rw [m.fld a67 (sS 31 (by decide) s31), m.fldJ j67 t32, m.row a83 (by decide)]; exact y11
  · unfold MOw; rw [m.fld a67 (sS 40 (by decide) s40), m.fldJ j67 t41, m.row a88 (by decide)]; exact y12
  · rw [m.fld a67 (sS 51 (by decide) s51), m.fld a67 (sS 52 (by decide) s52), m.fld a67 (sS 53 (by decide) s53)]; exact y13
theorem tl_set : mset nP (fun j => (j = 0 ∨ j = 2) ∧ j ≠ 2) nP nP := by
  unfold mset nP
  exact ⟨⟨id, id, id, id, id, id, id, id, id, id, id⟩, by omega, id, id, id, id⟩
theorem f107 (x : ClS s B M h) (y : MoS s h) (ok : SOK s) (v : Int32) : PrI 107 [.ref 2, .int v] 148 [.ref 67, .int v] s B M h := by
  have c0 := x.1.1
  have e1 := x.2.1.2.2.2.2.1
  have hl := ok.2.2.2.2
  unfold PrI
  rw [we107]
  by_cases q1 : v < 0
  · simp only [w107, q1, zz]
    refine ⟨_, rfl, ?_⟩
    rw [s148 y.1 y.2.2.2.1 hl, if_neg (fun z => absurd q1 (Int32.not_lt.mpr z.1))]
    exact ⟨rfl, Nx.thr x y ok⟩
  · by_cases q2 : v ≤ nI (zL s)
    · obtain ⟨l, hl9, rfl⟩ := nI_of q1
      have hll := (nI_leI hl9 (by omega)).mp q2
      simp only [w107, c0, e1, q1, q2, zz]
      refine ⟨_, rfl, ?_⟩
      have mm := msm_tl h (nI l)
      have y1 := y.keep mm
      rw [s148 y1.1 y1.2.2.2.1 hl, if_pos ⟨Int32.not_lt.mp q1, q2⟩]
      refine ⟨rfl, ?_⟩
      have m : MO nP (fun j => j = 0 ∨ j = 2) nP nP (sI h 2 1 (nI l)) (sI (sI (sI h 2 1 (nI l)) 67 0 0) 67 2 (nI l)) := (MO.rf.sI67 0 (Or.inl rfl)).sI67 (nI l) (Or.inr rfl)
      exact Nx.of (x.tl l) (y1.tl m (fun z => z) tl_set (by rw [hI_sI, if_pos ⟨rfl, rfl⟩])) ⟨ok.1, ok.2.1, ok.2.2.1, ok.2.2.2.1, by show l ≤ 540; omega⟩ rfl hll (Nat.le_refl _) (Nat.le_refl _) (m.csm nP_in nP_in)
    · simp only [w107, c0, e1, q1, q2, zz]
      refine ⟨_, rfl, ?_⟩
      rw [s148 y.1 y.2.2.2.1 hl, if_neg (fun z => q2 z.2)]
      exact ⟨rfl, Nx.thr x y ok⟩
end Fh

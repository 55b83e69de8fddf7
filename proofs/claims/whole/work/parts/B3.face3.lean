/-! ===== THE FACE: costs, the small searches, acts, orders ===== -/
section Fe
variable {s : SG} {B M B' M' : Nat} {h h1 h2 : AH}
theorem f116 (x : ClS s B M h) (y : MoS s h) (ok : SOK s) (k v u : Int32) : PrI 116 [.ref 2, .int k, .int v, .int u] 188 [.ref 67, .int k, .int v, .int u] s B M h := by
  have c0 := x.1.1
  have hk := x.net.1
  have n0 := x.n0
  unfold PrI
  rw [we116]
  by_cases q : (0 ≤ v ∧ v ≤ 7) ∧ (1 ≤ u ∧ u ≤ 14) ∧ 0 < nI (zn s)
  · by_cases q2 : 0 ≤ k ∧ k < nI (zn s)
    · have q' := q
      have q2' := q2
      obtain ⟨w, hw, rfl⟩ := way_of q.1
      obtain ⟨b, hb1, hb, rfl⟩ := bowl_of q.2.1
      obtain ⟨k, hk9, rfl⟩ := th_of ok.1.1 q2
      have hw9 := s_lt ok.1.1 ok.2.1
      have hn14 := ok.1.1
      simp only [w116, c0, s137 x, if_pos q', mz, hk, s24 x.net, n0, if_pos q2', zz]
      rw [show nI k = oI (some k) from (oI_some k).symm]
      refine s10 (C := zc s) (on := some k) x.1 x.kn x.np ok.1 hw (by omega) (by omega) x.n2 (fun k hk => (x.nc k hk).1) (fun k hk => (x.nc k hk).2) (fun j hj => by cases hj; omega) fun h1 r lc cw1 cf1 => ?_
      simp only [w116, zz]
      refine ⟨r, rfl, ?_⟩
      rw [oI_some]
      obtain ⟨x1, mm⟩ := x.al cw1 cf1 (fun a z => by unfold chA actA at z; omega)
      have y1 := y.keep mm
      refine s188 (C := zc s) y1.1 y1.2.1.1 ok.1 hk9 hw hb1 hb ok.2.1 fun h2 r' lc' ml => ?_
      exact ⟨by rw [LC.uniq lc' lc], Nx.same x1 y ok mm cf1.2.2.2.2.2.2.2.2.2.2.2.1 cf1.2.2.2.2.2.2.2.2.2.2.2.2 ml ml_set ml_in nP_in⟩
    · simp only [w116, c0, s137 x, if_pos q, mz, hk, s24 x.net, n0, if_neg q2, zz]
      refine ⟨_, rfl, ?_⟩
      rw [s188f y.1 y.2.1.1.1 ok.1.1 (fun z => q2 z.2)]
      exact ⟨rfl, Nx.thr x y ok⟩
  · simp only [w116, c0, s137 x, if_neg q, mz, zz]
    refine ⟨_, rfl, ?_⟩
    rw [s188f y.1 y.2.1.1.1 ok.1.1 (fun z => q z.1)]
    exact ⟨rfl, Nx.thr x y ok⟩
theorem f118 (x : ClS s B M h) (y : MoS s h) (ok : SOK s) (v u : Int32) : PrI 118 [.ref 2, .int v, .int u] 189 [.ref 67, .int v, .int u] s B M h := by
  have c0 := x.1.1
  unfold PrI
  rw [we118]
  by_cases q : (0 ≤ v ∧ v ≤ 7) ∧ (1 ≤ u ∧ u ≤ 14) ∧ 0 < nI (zn s)
  · have hn0 := zpos ok q.2.2
    have q' := q
    obtain ⟨w, hw, rfl⟩ := way_of q.1
    obtain ⟨b, hb1, hb, rfl⟩ := bowl_of q.2.1
    have hw9 := s_lt ok.1.1 ok.2.1
    simp only [w118, c0, s137 x, if_pos q', mz, zz]
    rw [show (-1 : Int32) = oI none from oI_none.symm]
    refine s10 (C := zc s) (on := none) x.1 x.kn x.np ok.1 hw (by omega) (by omega) x.n2 (fun k hk => (x.nc k hk).1) (fun k hk => (x.nc k hk).2) (fun j hj => by cases hj) fun h1 r lc cw1 cf1 => ?_
    simp only [w118, zz]
    refine ⟨r, rfl, ?_⟩
    obtain ⟨x1, mm⟩ := x.al cw1 cf1 (fun a z => by unfold chA actA at z; omega)
    have y1 := y.keep mm
    refine s189 (C := zc s) y1.1 y1.2.1.1 ok.1 (fun k hk => ⟨(y1.2.1.2.2 k hk).1, (x.nc k hk).2⟩) hn0 hw hb1 hb ok.2.1 fun h2 r' lc' ml => ?_
    exact ⟨by rw [LC.uniq lc' lc], Nx.same x1 y ok mm cf1.2.2.2.2.2.2.2.2.2.2.2.1 cf1.2.2.2.2.2.2.2.2.2.2.2.2 ml ml_set ml_in nP_in⟩
  · simp only [w118, c0, s137 x, if_neg q, mz, zz]
    refine ⟨_, rfl, ?_⟩
    rw [s189f y.1 y.2.1.1.1 q]
    exact ⟨rfl, Nx.thr x y ok⟩
theorem mp_set : mset mpA mbS nP nP := by unfold mset mpA mbS nP; exact ⟨by omega, by omega, id, id, id, id⟩
theorem mp_in : ∀ a, mpA a → 67 ≤ a ∧ a < 100 := fun a z => by unfold mpA at z; omega
theorem mk_set : mset mkkA mbS nP nP := by unfold mset mkkA mbS nP; exact ⟨by omega, by omega, id, id, id, id⟩
theorem mk_in : ∀ a, mkkA a → 67 ≤ a ∧ a < 100 := fun a z => by unfold mkkA at z; omega
theorem f125 (x : ClS s B M h) (y : MoS s h) (ok : SOK s) (v : Int32) : PrI 125 [.ref 2, .int v] 200 [.ref 67, .int v] s B M h := by
  have c0 := x.1.1
  unfold PrI
  rw [we125]
  by_cases q : (1 ≤ v ∧ v ≤ 8) ∧ 0 < zn s ∧ zn s ≤ 8
  · have q' := q
    obtain ⟨b, hb1, hb, rfl⟩ := few_of (m := 8) (by decide) q.1
    obtain ⟨R, hR1, hR2, hR3⟩ := x.2.1.2.1.2.2.2.1
    simp only [w125, c0, s139 x, if_pos q', mz, zz]
    refine s84 x.1 x.kn x.np ok.1 q.2.2 q.2.1 (by omega) hR1 hR2 hR3 ok.2.1 x.n2 fun h1 r cy cw1 cf1 => ?_
    simp only [w125, zz]
    refine ⟨r, rfl, ?_⟩
    obtain ⟨x1, mm⟩ := x.al cw1 cf1 (fun a z => by omega)
    have y1 := y.keep mm
    refine s200 y1.1 y1.2.1.1 (fun k hk => (y1.2.1.2.2 k hk).2.1) ok.1 q.2.1 q.2.2 hb1 hb ok.2.1 hR2 hR3 fun h2 r' cy' mo => ?_
    exact ⟨by rw [CyR.uniq cy' cy], Nx.same x1 y ok mm cf1.2.2.2.2.2.2.2.2.2.2.2.1 cf1.2.2.2.2.2.2.2.2.2.2.2.2 mo mp_set mp_in nP_in⟩
  · simp only [w125, c0, s139 x, if_neg q, mz, zz]
    refine ⟨_, rfl, ?_⟩
    rw [s200f y.1 y.2.1.1.1 ok.1.1 v q]
    exact ⟨rfl, Nx.thr x y ok⟩
theorem f126 (x : ClS s B M h) (y : MoS s h) (ok : SOK s) (k v : Int32) : PrI 126 [.ref 2, .int k, .int v] 203 [.ref 67, .int k, .int v] s B M h := by
  have c0 := x.1.1
  unfold PrI
  rw [we126]
  by_cases q : (1 ≤ v ∧ v ≤ 8) ∧ 0 < zn s ∧ zn s ≤ 8
  · by_cases q1 : k < 1
    · simp only [w126, c0, s139 x, if_pos q, mz, q1, zz]
      refine ⟨_, rfl, ?_⟩
      rw [s203f y.1 y.2.1.1.1 ok.1.1 k v (fun z => absurd q1 (Int32.not_lt.mpr z.1.1))]
      exact ⟨rfl, Nx.thr x y ok⟩
    · by_cases q2 : k ≤ 4
      · have q' := q
        have q1' := q1
        have q2' := q2
        obtain ⟨b, hb1, hb, rfl⟩ := few_of (m := 8) (by decide) q.1
        obtain ⟨ck, hck1, hck, rfl⟩ := few_of (m := 4) (by decide) ⟨Int32.not_lt.mp q1, q2⟩
        simp only [w126, c0, s139 x, if_pos q', mz, q1', q2', zz]
        refine s87 x.1 x.kn x.np ok.1 q.2.2 (by omega) (by omega) (ok.2.2.1 q.2.1) ok.2.1 x.n2 fun h1 r ho cw1 cf1 => ?_
        simp only [w126, zz]
        refine ⟨r, rfl, ?_⟩
        obtain ⟨x1, mm⟩ := x.al cw1 cf1 (fun a z => by omega)
        have y1 := y.keep mm
        refine s203 y1.1 y1.2.1.1 ok.1 q.2.1 q.2.2 hb1 hb hck1 hck (ok.2.2.1 q.2.1) ok.2.1 fun h2 r' ho' mo => ?_
        exact ⟨by rw [HoR.uniq ho' ho], Nx.same x1 y ok mm cf1.2.2.2.2.2.2.2.2.2.2.2.1 cf1.2.2.2.2.2.2.2.2.2.2.2.2 mo mk_set mk_in nP_in⟩
      · simp only [w126, c0, s139 x, if_pos q, mz, q1, q2, zz]
        refine ⟨_, rfl, ?_⟩
        rw [s203f y.1 y.2.1.1.1 ok.1.1 k v (fun z => q2 z.1.2)]
        exact ⟨rfl, Nx.thr x y ok⟩
  · simp only [w126, c0, s139 x, if_neg q, mz, zz]
    refine ⟨_, rfl, ?_⟩
    rw [s203f y.1 y.2.1.1.1 ok.1.1 k v (fun z => q z.2)]
    exact ⟨rfl, Nx.thr x y ok⟩
theorem f127 (x : ClS s B M h) (y : MoS s h) (ok : SOK s) : PrI 127 [.ref 2] 205 [.ref 67] s B M h := by
  have c0 := x.1.1
  have e1 : ((1 : Int32) ≤ 1 ∧ (1 : Int32) ≤ 8) := by decide
  unfold PrI
  rw [we127]
  by_cases q : 0 < zn s ∧ zn s ≤ 8
  · simp only [w127, c0, s139 x, if_pos (And.intro e1 q), mz, zz]
    refine s90 x.1 x.kn x.np ok.1 q.2 (ok.2.2.1 q.1) ok.2.1 x.n2 fun h1 r pr cw1 cf1 => ?_
    simp only [w127, zz]
    refine ⟨r, rfl, ?_⟩
    obtain ⟨x1, mm⟩ := x.al cw1 cf1 (fun a z => by omega)
    have y1 := y.keep mm
    refine s205 y1.1 y1.2.1.1 ok.1 q.1 q.2 (ok.2.2.1 q.1) ok.2.1 fun h2 r' pr' mo => ?_
    exact ⟨by rw [PrR.uniq pr' pr], Nx.same x1 y ok mm cf1.2.2.2.2.2.2.2.2.2.2.2.1 cf1.2.2.2.2.2.2.2.2.2.2.2.2 mo mp_set mp_in nP_in⟩
  · simp only [w127, c0, s139 x, if_neg (fun z : ((1 : Int32) ≤ 1 ∧ (1 : Int32) ≤ 8) ∧ 0 < zn s ∧ zn s ≤ 8 => q z.2), mz, zz]
    refine ⟨_, rfl, ?_⟩
    rw [s205f y.1 y.2.1.1.1 ok.1.1 q]
    exact ⟨rfl, Nx.thr x y ok⟩
/-- the row and the many of acts change -/
def zsR (s : SG) (r : List Nat × Nat) : SG := (s.1, s.2.1, s.2.2.1, s.2.2.2.1, s.2.2.2.2.1, r, s.2.2.2.2.2.2)
def zsO (s : SG) (r : List Nat × Nat) : SG := (s.1, s.2.1, s.2.2.1, s.2.2.2.1, s.2.2.2.2.1, s.2.2.2.2.2.1, r, s.2.2.2.2.2.2.2)
theorem shA_out (x : ClS s B M h) : ∀ a, ¬ ((36 ≤ a ∧ a ≤ 41) ∨ a = 50 ∨ a = 54 ∨ (100 ≤ a ∧ a ≠ hR h 47 2)) → ¬ shA h a := fun a ha z => by
  have h6 := r50 x
  have hne : hR h 50 6 ≠ hR h 47 2 := fun z => x.1.ap.2.2.2.2.2.2.2.2.2.2.2.2.2.2 z.symm
  unfold shA actA at z
  omega
theorem f113 (x : ClS s B M h) (y : MoS s h) (ok : SOK s) (v u : Int32) : PrI 113 [.ref 2, .int v, .int u] 184 [.ref 67, .int v, .int u] s B M h := by
  have c0 := x.1.1
  unfold PrI
  rw [we113]
  by_cases q : (0 ≤ v ∧ v ≤ 7) ∧ (1 ≤ u ∧ u ≤ 14) ∧ 0 < nI (zn s)
  · have hn0 := zpos ok q.2.2
    have q' := q
    obtain ⟨w, hw, rfl⟩ := way_of q.1
    obtain ⟨b, hb1, hb, rfl⟩ := bowl_of q.2.1
    have hw9 := s_lt ok.1.1 ok.2.1
    have h2 := r47 x
    have hO := shA_out x
    have base : ∀ h1, CFr (shA h) (fun a => a = 50) h h1 → CB s h1 ∧ CP s h1 ∧ CO s h1 ∧ CC s h1 ∧ MSm h h1 := fun h1 cf => ⟨x.2.1.cf cf x.1 (fun a ha => hO a (by omega)), x.2.2.1.cf cf x.1 (hO 42 (by omega)) (hO 43 (by omega)) (hO 44 (by omega)), x.2.2.2.2.1.cf cf x.1 (hO 60 (by omega)) (hO 63 (by omega)) (by decide), x.2.2.2.2.2.cf cf x.1 (hO 47 (by omega)) (hO _ (by omega)), cf.msm x.1 (fun a p q => ⟨hO a (by omega), by omega⟩)⟩
    simp only [w113, c0, s137 x, if_pos q', mz, zz]
    refine s75 x.1 x.kn x.np ok.1 hw (by omega) (by omega) x.n2 (fun h1 no cw1 cf1 rw1 => ?_) (fun kk h1 la cw1 cf1 rw1 => ?_)
    · obtain ⟨b1, b2, b3, b4, mm⟩ := base h1 cf1
      simp only [w113, zz]
      refine ⟨_, rfl, ?_⟩
      have x1 : ClS s B M h1 := ⟨cw1, b1, b2, rw1 _ _ x.2.2.2.1, b3, b4⟩
      have y1 := y.keep mm
      refine s184 y1.1 y1.2.1.1 ok.1 hn0 hw hb1 hb ok.2.1 (fun h2 no' mf => ?_) (fun kk h2 la mo mr => ?_)
      · exact ⟨rfl, Nx.same x1 y ok mm cf1.2.2.2.2.2.2.2.2.2.2.2.1 cf1.2.2.2.2.2.2.2.2.2.2.2.2 mf mf_set mf_in nP_in⟩
      · have h9 : cnt (actsOf (zn s) (zQ s) w) (2 ^ zn s) b (isEndB w (zw s)) kk 0 = 0 := no kk
        have h8 : 0 < cnt (actsOf (zn s) (zQ s) w) (2 ^ zn s) b (isEndB w (zw s)) kk 0 := la.1
        omega
    · obtain ⟨b1, b2, b3, b4, mm⟩ := base h1 cf1
      simp only [w113, zz]
      refine ⟨_, rfl, ?_⟩
      have y1 := y.keep mm
      refine s184 y1.1 y1.2.1.1 ok.1 hn0 hw hb1 hb ok.2.1 (fun h2 no' mf => ?_) (fun kk' h2 la' mo mr => ?_)
      · have h9 : cnt (actsOf (zn s) (zQ s) w) (2 ^ zn s) b (isEndB w (zw s)) kk 0 = 0 := no' kk
        have h8 : 0 < cnt (actsOf (zn s) (zQ s) w) (2 ^ zn s) b (isEndB w (zw s)) kk 0 := la.1
        omega
      · have ek := LAc.uniq la' la
        subst ek
        refine ⟨rfl, ?_⟩
        have cs := mo.csm (fun a z => by unfold maA mfA at z; omega) (fun a z => by unfold maJ at z; omega)
        have x1 : ClS (zsR s (fRow (actsOf (zn s) (zQ s) w) (2 ^ zn s) b (isEndB w (zw s)) kk' 0, min MR (cnt (actsOf (zn s) (zQ s) w) (2 ^ zn s) b (isEndB w (zw s)) kk' 0))) B M h1 := ⟨cw1, b1, b2, rw1, b3, b4⟩
        have y2 : MoS (zsR s (fRow (actsOf (zn s) (zQ s) w) (2 ^ zn s) b (isEndB w (zw s)) kk' 0, min MR (cnt (actsOf (zn s) (zQ s) w) (2 ^ zn s) b (isEndB w (zw s)) kk' 0))) h2 := by
          obtain ⟨z0, z1, z6, z7, z8, z9, z10, z11, z12, z13⟩ := y1
          have n67 : ¬ maA 67 := by unfold maA mfA; decide
          have sS : ∀ k, ¬ (k = 0 ∨ k = 23 ∨ k = 24 ∨ k = 25 ∨ k = 28 ∨ k = 31) → ¬ maS k := fun k hk z => by unfold maS mfS at z; omega
          have sA : ∀ k, ¬ (k = 79 ∨ k = 80 ∨ k = 81 ∨ k = 83) → ¬ maA k := fun k hk z => by unfold maA mfA at z; omega
          refine ⟨mo.ms z0, z1.mo mo (sA 70 (by decide)) (sA 71 (by decide)) (sA 72 (by decide)) (sA 73 (by decide)) (sA 74 (by decide)) (by unfold maJ; decide), (mo.row (sA 68 (by decide)) (by decide)).trans z6, (mo.fld n67 (sS 2 (by decide))).trans z7, (mo.fld n67 (sS 15 (by decide))).trans z8, ?_, ?_, mr, ?_, ?_⟩
          · unfold MPl; rw [mo.fld n67 (sS 49 (by decide)), mo.row (sA 95 (by decide)) (by decide)]; exact z9
          · unfold MSp; rw [mo.fld n67 (sS 56 (by decide)), mo.row (sA 98 (by decide)) (by decide)]; exact z10
          · unfold MOw; rw [mo.fld n67 (sS 40 (by decide)), mo.fldJ (by unfold maJ; decide) (by unfold maT; decide), mo.row (sA 88 (by decide)) (by decide)]; exact z12
          · rw [mo.fld n67 (sS 51 (by decide)), mo.fld n67 (sS 52 (by decide)), mo.fld n67 (sS 53 (by decide))]; exact z13
        refine ⟨_, B, M, 0, x1.keep cs, y2, ok, by omega, by omega, ?_⟩
        have := ph_le (s := s) (s' := zsR s (fRow (actsOf (zn s) (zQ s) w) (2 ^ zn s) b (isEndB w (zw s)) kk' 0, min MR (cnt (actsOf (zn s) (zQ s) w) (2 ^ zn s) b (isEndB w (zw s)) kk' 0))) (h := h) (h' := h2) rfl (Nat.le_refl _) (by rw [cs.2.1, cs.2.2.1]; exact cf1.2.2.2.2.2.2.2.2.2.2.2.1) (by rw [cs.2.1, cs.2.2.1]; exact cf1.2.2.2.2.2.2.2.2.2.2.2.2)
        omega
  · simp only [w113, c0, s137 x, if_neg q, mz, zz]
    refine ⟨_, rfl, ?_⟩
    rw [s184f y.1 y.2.1.1.1 q]
    exact ⟨rfl, Nx.thr x y ok⟩
end Fe

/-! ===== THE FACE: thing, tree; a throw ===== -/
section Fl
variable {s : SG} {B M : Nat} {h h1 h2 : AH} {Q : Option Value → AH → Prop}
theorem WPM_pr {c : Nat} {av : List Value} {r : Option Value} (hc : 900 ≤ c) (e : prim c av h = some (r, h1)) : WPM c av h Q ↔ Q r h1 := by
  have e2 : ∀ n, runM n c av h = some (r, h1) := fun n => by unfold runM; rw [if_pos hc]; exact e
  constructor
  · rintro ⟨n, r', h', e', q⟩
    rw [e2 n] at e'
    cases e'
    exact q
  · exact fun q => ⟨0, r, h1, e2 0, q⟩
theorem zPrim (x : ClS s B M h) (y : MoS s h) : primOK h 2 99 = true := by
  have c0 := x.1.1
  have m0 := y.1
  have hn := x.net
  have n0 := x.n0
  have hn14 := x.np.2.2.1
  have hle : hI h (hR h 2 2) 0 ≤ 14 := by rw [n0]; exact nI_le (b := 14) hn14 (by decide)
  unfold primOK rowOK
  simp only [c0, m0, hn, hle, decide_true, Bool.and_self, Nat.lt_add_one, Nat.le_refl]
theorem ClS.thrw (x : ClS s B M h) : ClS s (B + 6) (M + 1) (thr h) := by
  have h100 := x.1.c100
  have hb := x.1.bl
  have e : ∀ a, a < hN h → hT (thr h) a = hT h a ∧ hL (thr h) a = hL h a ∧ hI (thr h) a = hI h a ∧ hJ (thr h) a = hJ h a ∧ hR (thr h) a = hR h a := fun a ha => by
    have hne : ¬ a = hN h := by omega
    unfold thr
    exact ⟨by rw [hT_nw, if_neg hne], by rw [hL_nw, if_neg hne], by rw [hI_nw, if_neg hne], by rw [hJ_nw, if_neg hne], by rw [hR_nw, if_neg hne]⟩
  have eI : ∀ a, a < hN h → hI (thr h) a = hI h a := fun a ha => (e a ha).2.2.1
  have eJ : ∀ a, a < hN h → hJ (thr h) a = hJ h a := fun a ha => (e a ha).2.2.2.1
  have eR : ∀ a, a < hN h → hR (thr h) a = hR h a := fun a ha => (e a ha).2.2.2.2
  have r2 := eR 2 (by omega)
  have r31 := eR 31 (by omega)
  have r47' := eR 47 (by omega)
  have r50' := eR 50 (by omega)
  have eN : hN (thr h) = hN h + 1 := rfl
  have eS : hS (thr h) = hS h + 6 := rfl
  have hk := x.kn
  obtain ⟨x1, ⟨w1, w2, w3, w4, w5, w6, w7⟩, x3, x4, x5, x6⟩ := x
  have b0 := e _ hb.1
  have b1 := e _ hb.2.1
  have b2 := e _ hb.2.2.1
  have b3 := e _ hb.2.2.2.1
  have b4 := e _ hb.2.2.2.2.1
  have b5 := e _ hb.2.2.2.2.2
  refine ⟨⟨CS0_of (fun a ha => ⟨(e a (by omega)).1, (e a (by omega)).2.1⟩) (fun a k ha _ => by rw [eR a (by omega)]) x1.1, ?_, ?_⟩, ?_, ?_, ?_, ?_, ?_⟩
  · have d := x1.2.1
    unfold DY at d ⊢
    rw [eN, r31, r47', r50', b0.1, b1.1, b2.1, b3.1, b4.1, b5.1, b0.2.1, b1.2.1, b2.2.1, b3.2.1, b4.2.1, b5.2.1]
    obtain ⟨d1, d2, d3, ⟨d41, d42, d43, d44, d45, d46⟩, d5, d6⟩ := d
    exact ⟨Nat.le_succ_of_le d1, d2, d3, ⟨Nat.lt_succ_of_lt d41, Nat.lt_succ_of_lt d42, Nat.lt_succ_of_lt d43, Nat.lt_succ_of_lt d44, Nat.lt_succ_of_lt d45, Nat.lt_succ_of_lt d46⟩, d5, d6⟩
  · have d := x1.2.2
    unfold Rm at d ⊢
    rw [eN, eS, r31, r47', r50', b0.2.1, b1.2.1, b2.2.1, b3.2.1, b4.2.1, b5.2.1]
    omega
  · unfold CB
    rw [r2, eI 3 (by omega), eI 2 (by omega), eI 26 (by omega), eI 28 (by omega)]
    exact ⟨w1, DrF.congr (fun j hj => eI (hR h 2 2 + j) (by omega)) w2, NetF.congr (fun j hj => eI (hR h 2 2 + j) (by omega)) w3, w4, w5, w6, w7⟩
  · unfold CP PLn SPn at x3 ⊢
    rw [eI 42 (by omega), eI 43 (by omega), eI 44 (by omega)]
    exact x3
  · unfold CR RW at x4 ⊢
    rw [eI 50 (by omega), eJ 50 (by omega), r50', b5.2.1, b5.2.2.1]
    exact x4
  · unfold CO OW at x5 ⊢
    rw [eI 60 (by omega), eI 63 (by omega), eJ 60 (by omega)]
    exact x5
  · unfold CC RC RKn RLv at x6 ⊢
    rw [eI 47 (by omega), r47', b4.2.1, b4.2.2.1]
    exact x6
theorem msm_thr (x : ClS s B M h) : MSm h (thr h) := fun a p q => by
  have h100 := x.1.c100
  have hne : ¬ a = hN h := by omega
  unfold thr
  exact ⟨by rw [hT_nw, if_neg hne], by rw [hL_nw, if_neg hne], by rw [hI_nw, if_neg hne], by rw [hJ_nw, if_neg hne], by rw [hR_nw, if_neg hne]⟩
end Fl

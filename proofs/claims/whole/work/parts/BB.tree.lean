/-! ===== THE FACE: tree ===== -/
section Fm
variable {s : SG} {B M : Nat} {h h1 h2 : AH} {Q : Option Value → AH → Prop}
/-- a pair with a throw -/
def PrT (c : Nat) (av : List Value) (c' : Nat) (av' : List Value) (s : SG) (B M : Nat) (h : AH) : Prop := WPM c av h (fun r h1 => ∃ u, r = some (.int u) ∧ (u = 0 ∨ u = 1) ∧ WPM c' av' h1 (fun r' h2 => ∃ b, r' = some (.int b) ∧ hI h2 67 0 = u ∧ (u = 0 → hJ h2 99 0 = b.toInt64) ∧ Nx s B M h h2))
theorem PrT.bad {c c' : Nat} {k w : Int32} (x : ClS s B M h) (y : MoS s h) (ok : SOK s) (hc : 900 ≤ c) (e : prim c [.ref 2, .int k, .int w, .ref 99] h = some (some (.int 1), thr h)) (hm : ∀ h1 (Q : Option Value → AH → Prop), MoS s h1 → (WPM c' [.ref 67, .int k, .int w] h1 Q ↔ Q (some (.int 0)) (sI h1 67 0 1))) : PrT c [.ref 2, .int k, .int w, .ref 99] c' [.ref 67, .int k, .int w] s B M h := by
  unfold PrT
  rw [WPM_pr hc e]
  refine ⟨1, rfl, Or.inr rfl, ?_⟩
  have y1 := y.keep (msm_thr x)
  rw [hm _ _ y1]
  refine ⟨0, rfl, by rw [hI_sI, if_pos ⟨rfl, rfl⟩], fun z => absurd z (by decide), ?_⟩
  have cs := csm_thr (thr h) 1
  refine ⟨s, B + 6, M + 1, 0, x.thrw.keep cs, y1.mo (mo_thr _ 1) ms_thr, ok, by omega, by omega, ?_⟩
  have h100 := x.1.c100
  have hb := x.1.bl
  have e31 : ∀ k, hR (sI (thr h) 67 0 1) 31 k = hR h 31 k := fun k => by
    show hR (thr h) 31 k = _
    unfold thr
    rw [hR_nw, if_neg (by omega)]
  have eL : ∀ a, a < hN h → hL (sI (thr h) 67 0 1) a = hL h a := fun a ha => by
    show hL (thr h) a = _
    unfold thr
    rw [hL_nw, if_neg (by omega)]
  have := ph_le (s := s) (s' := s) (h := h) (h' := sI (thr h) 67 0 1) rfl (Nat.le_refl _) (by rw [e31, eL _ hb.1]; exact Nat.le_refl _) (by rw [e31, eL _ hb.2.2.2.1]; exact Nat.le_refl _)
  omega
/-- the good case: what is written into out -/
theorem out_mo (h : AH) (v : Int64) : MO nP nP (fun a => a = 99) nP h (sJ h 99 0 v) := ⟨rfl, rfl, rfl, rfl, rfl, fun _ _ _ _ => rfl, fun a k h1 _ => by rw [hJ_sJ, if_neg (fun z => h1 z.1)]⟩
theorem out_set : mset nP nP (fun a => a = 99) nP := by
  unfold mset nP
  exact ⟨⟨id, id, id, id, id, id, id, id, id, id, id⟩, ⟨id, id, id, id, id, id, id, id, id⟩, by decide, by decide, id, id⟩
theorem fTree (x : ClS s B M h) (y : MoS s h) (ok : SOK s) (k w : Int32) : PrT 902 [.ref 2, .int k, .int w, .ref 99] 175 [.ref 67, .int k, .int w] s B M h := by
  have hp := zPrim x y
  have n0 := x.n0
  by_cases q : (0 ≤ k ∧ k < nI (zn s)) ∧ 0 ≤ w ∧ w ≤ 1
  · obtain ⟨j, hj, rfl⟩ := th_of ok.1.1 q.1
    obtain ⟨u, hu9, rfl⟩ := nI_of (Int32.not_lt.mpr q.2.1)
    have hu := (nI_leI (b := 1) hu9 (by decide)).mp q.2.2
    have hn14 := ok.1.1
    have cj : (nI j).toNatClampNeg = j := nI_clamp (by omega)
    have hn := x.net
    obtain ⟨-, b8, b9, -⟩ := x.2.1.2.2.1.2 j hj
    change hI h (hR h 2 2 + 8) j = nI (cp (zQ s) j) at b8
    change hI h (hR h 2 2 + 9) j = nI (dp (zQ s) j) at b9
    have ev : treeV h (hR h 2 2) (nI j) (nI u) = nI (trN (zQ s) j u) := by
      unfold treeV trN
      rw [cj]
      rcases (show u = 0 ∨ u = 1 by omega) with rfl | rfl
      · rw [if_pos rfl, if_pos nI_0]
        simp only [hn, b8]
      · rw [if_neg (by decide), if_neg (by decide)]
        simp only [hn, b9]
    have e : prim 902 [.ref 2, .int (nI j), .int (nI u), .ref 99] h = some (some (.int 0), sJ h 99 0 (nI (trN (zQ s) j u)).toInt64) := by
      show (if primOK h 2 99 = true then _ else _) = _
      rw [if_pos hp, if_neg (by decide), if_pos rfl, if_pos ⟨q.1.1, by rw [n0]; exact q.1.2, q.2.1, q.2.2⟩, ev]
    unfold PrT
    rw [WPM_pr (by decide) e]
    refine ⟨0, rfl, Or.inl rfl, ?_⟩
    have m1 := out_mo h (nI (trN (zQ s) j u)).toInt64
    have y1 := y.mo m1 out_set
    have x1 := x.keep (m1.csm nP_in (fun a z => by omega))
    refine s175 y1.1 y1.2.1.1 ok.1 hj (by omega) fun h2 mb e0 => ?_
    refine ⟨_, rfl, e0, fun _ => ?_, ?_⟩
    · rw [mb.rowJ (fun z => z) (by decide), hJ_sJ, if_pos ⟨rfl, rfl⟩]
      rfl
    · have cs := mb.csm (fun a z => by unfold mbA at z; omega) nP_in
      refine Nx.of x1 (y1.mo mb ?_) ok rfl (Nat.le_refl _) (Nat.le_refl _) (Nat.le_refl _) cs
      unfold mset mbA mbS nP
      exact ⟨by omega, by omega, id, id, id, id⟩
  · refine PrT.bad x y ok (by decide) ?_ (fun h1 Q y1 => s175f y1.1 y1.2.1.1.1 ok.1.1 q)
    show (if primOK h 2 99 = true then _ else _) = _
    rw [if_pos hp, if_neg (by decide), if_pos rfl, if_neg]
    rw [n0]
    exact fun z => q ⟨⟨z.1, z.2.1⟩, z.2.2⟩
end Fm

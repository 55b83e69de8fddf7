/-! ===== THE FACE: thing ===== -/
section Fn
variable {s : SG} {B M : Nat} {h h1 h2 : AH} {Q : Option Value → AH → Prop}
theorem fThing (x : ClS s B M h) (y : MoS s h) (ok : SOK s) (k w : Int32) : PrT 901 [.ref 2, .int k, .int w, .ref 99] 172 [.ref 67, .int k, .int w] s B M h := by
  have hp := zPrim x y
  have n0 := x.n0
  by_cases q : (0 ≤ k ∧ k < nI (zn s)) ∧ 0 ≤ w ∧ w ≤ 5
  · obtain ⟨j, hj, rfl⟩ := th_of ok.1.1 q.1
    obtain ⟨u, hu9, rfl⟩ := nI_of (Int32.not_lt.mpr q.2.1)
    have hu := (nI_leI (b := 5) hu9 (by decide)).mp q.2.2
    have hn14 := ok.1.1
    have cj : (nI j).toNatClampNeg = j := nI_clamp (by omega)
    have hn := x.net
    obtain ⟨b4, -⟩ := x.2.1.2.2.1.2 j hj
    have b3 := x.2.1.2.2.1.1
    change hI h (hR h 2 2 + 4) j = nI (bl (zQ s) j) at b4
    change hI h (hR h 2 2 + 0) 3 = nI (ndN (zQ s) (zw s) (zn s)) at b3
    rw [Nat.add_zero] at b3
    obtain ⟨R, hR1, hR2, hR3⟩ := x.2.1.2.1.2.2.2.1
    change hI h (hR h 2 2 + 0) 1 = nI R at hR1
    rw [Nat.add_zero] at hR1
    have hC := (x.nc j hj).1
    have hP := x.np.2.2.2 j hj
    have hw2 := x.n2
    have hR9 := s_lt hn14 hR2
    have hw9 := s_lt hn14 ok.2.1
    have hd9 := s_lt hn14 (ndN_lt2 ok.1 ok.2.1)
    have ev : thingV h (hR h 2 2) (nI j) (nI u) = nI (thN (zn s) (zQ s) (zc s) (zw s) j u) := by
      unfold thingV thN
      rw [cj]
      rcases (show u = 0 ∨ u = 1 ∨ u = 2 ∨ u = 3 ∨ u = 4 ∨ u = 5 by omega) with rfl | rfl | rfl | rfl | rfl | rfl
      · rw [if_pos nI_0]
        show _ = nI (zc s j)
        simp only [hn, hC]
      · rw [if_neg (show ¬ nI 1 = 0 by decide), if_pos (show nI 1 = 1 from rfl), hR1, nI_shr_bit (by omega) (by omega), hR3 j hj]
        show _ = nI (if zQ s j = 0 then 1 else 0)
        by_cases z : (zD s).2.2.1 j = 0
        · have z' : zQ s j = 0 := z
          rw [if_pos z']
          simp only [z, decide_true, if_true]
        · have z' : ¬ zQ s j = 0 := z
          rw [if_neg z']
          simp only [z, decide_false, if_false, Bool.false_eq_true]
      · rw [if_neg (show ¬ nI 2 = 0 by decide), if_neg (show ¬ nI 2 = 1 by decide), if_pos (show nI 2 = 2 from rfl), hw2, nI_shr_bit (by omega) (by omega)]
        rfl
      · rw [if_neg (show ¬ nI 3 = 0 by decide), if_neg (show ¬ nI 3 = 1 by decide), if_neg (show ¬ nI 3 = 2 by decide), if_pos (show nI 3 = 3 from rfl), b3, nI_shr_bit (by omega) (by omega)]
        rfl
      · rw [if_neg (show ¬ nI 4 = 0 by decide), if_neg (show ¬ nI 4 = 1 by decide), if_neg (show ¬ nI 4 = 2 by decide), if_neg (show ¬ nI 4 = 3 by decide), if_pos (show nI 4 = 4 from rfl)]
        show _ = nI (zQ s j)
        simp only [hn, hP]
      · rw [if_neg (show ¬ nI 5 = 0 by decide), if_neg (show ¬ nI 5 = 1 by decide), if_neg (show ¬ nI 5 = 2 by decide), if_neg (show ¬ nI 5 = 3 by decide), if_neg (show ¬ nI 5 = 4 by decide)]
        show _ = nI (bl (zQ s) j)
        simp only [hn, b4]
    have e : prim 901 [.ref 2, .int (nI j), .int (nI u), .ref 99] h = some (some (.int 0), sJ h 99 0 (nI (thN (zn s) (zQ s) (zc s) (zw s) j u)).toInt64) := by
      show (if primOK h 2 99 = true then _ else _) = _
      rw [if_pos hp, if_pos rfl, if_pos ⟨q.1.1, by rw [n0]; exact q.1.2, q.2.1, q.2.2⟩, ev]
    unfold PrT
    rw [WPM_pr (by decide) e]
    refine ⟨0, rfl, Or.inl rfl, ?_⟩
    have m1 := out_mo h (nI (thN (zn s) (zQ s) (zc s) (zw s) j u)).toInt64
    have y1 := y.mo m1 out_set
    have x1 := x.keep (m1.csm nP_in (fun a z => by omega))
    refine (s172 (C := zc s) y1.1 y1.2.1.1 ok.1 ok.2.1 (y1.2.1.2.2 j hj).1 (y1.2.1.2.2 j hj).2.1 hj (by omega)).mpr ?_
    refine ⟨_, rfl, by rw [hI_sI, if_pos ⟨rfl, rfl⟩], fun _ => ?_, ?_⟩
    · show hJ (sJ h 99 0 _) 99 0 = _
      rw [hJ_sJ, if_pos ⟨rfl, rfl⟩]
      rfl
    · exact Nx.of x1 (y1.mo (mo_thr _ 0) ms_thr) ok rfl (Nat.le_refl _) (Nat.le_refl _) (Nat.le_refl _) (csm_thr _ 0)
  · refine PrT.bad x y ok (by decide) ?_ (fun h1 Q y1 => s172f y1.1 y1.2.1.1.1 ok.1.1 q)
    show (if primOK h 2 99 = true then _ else _) = _
    rw [if_pos hp, if_pos rfl, if_neg]
    rw [n0]
    exact fun z => q ⟨⟨z.1, z.2.1⟩, z.2.2⟩
end Fn

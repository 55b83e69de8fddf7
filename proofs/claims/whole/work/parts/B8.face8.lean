/-! ===== THE FACE: feed ===== -/
def zsT (s : SG) (t : Nat → Int32) (l : Nat) : SG := (t, l, s.2.2)
section Fj
variable {s : SG} {B M B' M' : Nat} {h h1 h2 : AH} {Q : Option Value → AH → Prop} {A S J T : Nat → Prop}
theorem TcH_id (x : ClS s B M h) : TcH h (zT s) (zL s) = h := by
  unfold TcH
  rw [← x.2.1.2.2.2.2.1, ← x.2.1.2.2.2.1]
  have e : va_up (hI h 2) 1 (hI h 2 1) = hI h 2 := by
    funext j
    rw [up_at]
    by_cases q : j = 1
    · rw [if_pos q, q]
    · rw [if_neg q]
  rw [e, setI_id, setI_id]
theorem ClS.tc (x : ClS s B M h) (t : Nat → Int32) (l : Nat) : ClS (zsT s t l) B M (TcH h t l) := by
  have e : ∀ a, a ≠ 2 → a ≠ 3 → hI (TcH h t l) a = hI h a := fun a h2 h3 => by
    unfold TcH
    rw [hI_setI, if_neg h3, hI_setI, if_neg h2]
  have o : OnlyI (fun a => a = 2 ∨ a = 3) h (TcH h t l) := ⟨rfl, rfl, rfl, rfl, rfl, rfl, fun a ha => e a (fun z => ha (Or.inl z)) (fun z => ha (Or.inr z))⟩
  have hk := x.kn
  have h6 := r50 x
  have h2 := r47 x
  obtain ⟨x1, ⟨w1, w2, w3, w4, w5, w6, w7⟩, x3, x4, x5, x6⟩ := x
  refine ⟨x1.ofI o, ⟨w1, DrF.congr (fun j hj => e (hR h 2 2 + j) (by omega) (by omega)) w2, NetF.congr (fun j hj => e (hR h 2 2 + j) (by omega) (by omega)) w3, rfl, rfl, by rw [e 26 (by decide) (by decide)]; exact w6, fun j hj => by rw [e 28 (by decide) (by decide)]; exact w7 j hj⟩, ?_, ?_, ?_, ?_⟩
  · show CP s _
    unfold CP PLn SPn at x3 ⊢
    rw [e 42 (by decide) (by decide), e 43 (by decide) (by decide), e 44 (by decide) (by decide)]
    exact x3
  · show CR s _
    unfold CR RW at x4 ⊢
    rw [e 50 (by decide) (by decide), show hI (TcH h t l) (hR (TcH h t l) 50 6) = hI h (hR h 50 6) from e (hR h 50 6) (by omega) (by omega)]
    exact x4
  · show CO s _
    unfold CO OW at x5 ⊢
    rw [e 60 (by decide) (by decide), e 63 (by decide) (by decide)]
    exact x5
  · show CC s _
    unfold CC RC RKn RLv at x6 ⊢
    rw [e 47 (by decide) (by decide), show hI (TcH h t l) (hR (TcH h t l) 47 2) = hI h (hR h 47 2) from e (hR h 47 2) (by omega) (by omega)]
    exact x6
theorem f105 (x : ClS s B M h) (y : MoS s h) (ok : SOK s) (a b c d e : Int32) : PrI 105 [.ref 2, .int a, .int b, .int c, .int d, .int e] 146 [.ref 67, .int a, .int b, .int c, .int d, .int e] s B M h := by
  have c0 := x.1.1
  have e1 := x.2.1.2.2.2.2.1
  have hl := ok.2.2.2.2
  have hr := TcH_r h
  unfold PrI
  rw [we105]
  by_cases q : zL s ≤ 520
  · have q' : nI (zL s) ≤ (520 : Int32) := nI_le (b := 520) q (by decide)
    have hid := TcH_id x
    have p1 := fun (Q : Option Value → AH → Prop) => s106 (Q := Q) (h := h) (t := zT s) (l := zL s) c0 (by omega) a
    have p2 := fun (Q : Option Value → AH → Prop) => s106 (Q := Q) (h := h) (t := put4 (zT s) (zL s) a) (l := zL s + 4) c0 (by omega) b
    have p3 := fun (Q : Option Value → AH → Prop) => s106 (Q := Q) (h := h) (t := put4 (put4 (zT s) (zL s) a) (zL s + 4) b) (l := zL s + 4 + 4) c0 (by omega) c
    have p4 := fun (Q : Option Value → AH → Prop) => s106 (Q := Q) (h := h) (t := put4 (put4 (put4 (zT s) (zL s) a) (zL s + 4) b) (zL s + 4 + 4) c) (l := zL s + 4 + 4 + 4) c0 (by omega) d
    have p5 := fun (Q : Option Value → AH → Prop) => s106 (Q := Q) (h := h) (t := put4 (put4 (put4 (put4 (zT s) (zL s) a) (zL s + 4) b) (zL s + 4 + 4) c) (zL s + 4 + 4 + 4) d) (l := zL s + 4 + 4 + 4 + 4) c0 (by omega) e
    rw [hid] at p1
    simp only [w105, c0, e1, q', p1, p2, p3, p4, p5, hr, zz]
    refine ⟨_, rfl, ?_⟩
    have x1 := x.tc (put20 (zT s) (zL s) a b c d e) (zL s + 20)
    have mm : MSm h (TcH h (put20 (zT s) (zL s) a b c d e) (zL s + 20)) := fun k p q => ⟨rfl, rfl, by unfold TcH; rw [hI_setI, if_neg (by omega), hI_setI, if_neg (by omega)], rfl, rfl⟩
    have y1 := y.keep mm
    have hh : put4 (put4 (put4 (put4 (put4 (zT s) (zL s) a) (zL s + 4) b) (zL s + 4 + 4) c) (zL s + 4 + 4 + 4) d) (zL s + 4 + 4 + 4 + 4) e = put20 (zT s) (zL s) a b c d e := rfl
    have hl20 : zL s + 4 + 4 + 4 + 4 + 4 = zL s + 20 := rfl
    rw [hh, hl20]
    rw [s146 y1.1 y1.2.2.2.1 (by omega), y1.2.2.1]
    refine ⟨rfl, ?_⟩
    generalize hB : TcH h (put20 (zT s) (zL s) a b c d e) (zL s + 20) = h1 at x1 mm y1
    have m : MO (fun k => k = 68) (fun k => k = 0 ∨ k = 2) nP nP h1 (TaH (sI h1 67 0 0) (put20 (zT s) (zL s) a b c d e) (zL s + 20)) := by
      unfold TaH
      refine ((MO.rf.sI67 0 (Or.inl rfl)).r67 (fun k hk => ?_)).rI _ rfl
      rw [up_at, if_neg (fun z => hk (Or.inr z))]
    have cs := m.csm (fun k z => by omega) nP_in
    have y2 : MoS (zsT s (put20 (zT s) (zL s) a b c d e) (zL s + 20)) (TaH (sI h1 67 0 0) (put20 (zT s) (zL s) a b c d e) (zL s + 20)) := by
      obtain ⟨z0, z1, z6, z7, z8, z9, z10, z11, z12, z13⟩ := y1
      have n67 : ¬ (67 : Nat) = 68 := by decide
      have sS : ∀ k, ¬ (k = 0 ∨ k = 2) → ¬ (k = 0 ∨ k = 2) := fun k hk => hk
      refine ⟨m.ms z0, z1.mo m (by decide) (by decide) (by decide) (by decide) (by decide) (fun z => z), rfl, rfl, (m.fld n67 (by decide)).trans z8, ?_, ?_, ?_, ?_, ?_⟩
      · unfold MPl; rw [m.fld n67 (by decide), m.row (by decide) (by decide)]; exact z9
      · unfold MSp; rw [m.fld n67 (by decide), m.row (by decide) (by decide)]; exact z10
      · unfold MRw; rw [m.fld n67 (by decide), m.fldJ (fun z => z) (fun z => z), m.row (by decide) (by decide)]; exact z11
      · unfold MOw; rw [m.fld n67 (by decide), m.fldJ (fun z => z) (fun z => z), m.row (by decide) (by decide)]; exact z12
      · rw [m.fld n67 (by decide), m.fld n67 (by decide), m.fld n67 (by decide)]; exact z13
    refine ⟨_, B, M, 0, x1.keep cs, y2, ⟨ok.1, ok.2.1, ok.2.2.1, ok.2.2.2.1.put20 _ a b c d e, by show zL s + 20 ≤ 540; omega⟩, by omega, by omega, ?_⟩
    have hbig : Big (zsT s (put20 (zT s) (zL s) a b c d e) (zL s + 20)) (TaH (sI h1 67 0 0) (put20 (zT s) (zL s) a b c d e) (zL s + 20)) ↔ Big s h := by
      have e1 : hL (TaH (sI h1 67 0 0) (put20 (zT s) (zL s) a b c d e) (zL s + 20)) = hL h := cs.2.1.trans (by rw [← hB]; rfl)
      have e2 : hR (TaH (sI h1 67 0 0) (put20 (zT s) (zL s) a b c d e) (zL s + 20)) = hR h := cs.2.2.1.trans (by rw [← hB]; rfl)
      unfold Big
      rw [e1, e2]
      exact Iff.rfl
    unfold ph
    by_cases z : Big s h
    · rw [if_pos z, if_pos (hbig.mpr z)]
      split <;> split <;> omega
    · rw [if_neg z, if_neg (fun y => z (hbig.mp y))]
      split <;> split <;> omega
  · have q' : ¬ nI (zL s) ≤ (520 : Int32) := nI_ge (a := 520) (by omega) (by omega)
    simp only [w105, c0, e1, q', zz]
    refine ⟨_, rfl, ?_⟩
    rw [s146f y.1 y.2.2.2.1 hl (by omega)]
    exact ⟨rfl, Nx.thr x y ok⟩
end Fj

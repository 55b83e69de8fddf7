/-! ===== THE FACE: plan ===== -/
def zsP (s : SG) (d : Dt) (pl : List Nat) (f : Int32) : SG := (s.1, 0, d, pl, s.2.2.2.2.1, s.2.2.2.2.2.1, s.2.2.2.2.2.2.1, f, s.2.2.2.2.2.2.2.2)
section Fn
variable {s : SG} {B M : Nat} {h h' h1 h2 : AH} {Q : Option Value → AH → Prop} {A S J T : Nat → Prop}
/-- reading leaves all that lies behind 31 but the plan and the cache -/
def Rdg (h h' : AH) : Prop := hT h' = hT h ∧ hL h' = hL h ∧ hJ h' = hJ h ∧ hN h' = hN h ∧ hS h' = hS h ∧ (∀ a k, 31 ≤ a → hR h' a k = hR h a k) ∧ (∀ a k, dynR a k = false → hR h' a k = hR h a k) ∧ ∀ a, 31 ≤ a → a ≠ 42 → a ≠ 43 → a ≠ 47 → hI h' a = hI h a
theorem ClS.rdg (x : ClS s B M h) (o : Rdg h h') : CW B M h' ∧ CR s h' ∧ CO s h' ∧ MSm h h' := by
  obtain ⟨o1, o2, o3, o4, o5, o6, o7, o8⟩ := o
  have h6 := r50 x
  obtain ⟨x1, x2, x3, x4, x5, x6⟩ := x
  have a1 := o6 31 0 (by decide)
  have a2 := o6 31 1 (by decide)
  have a3 := o6 31 2 (by decide)
  have a4 := o6 31 3 (by decide)
  have a5 := o6 47 2 (by decide)
  have a6 := o6 50 6 (by decide)
  refine ⟨⟨CS0_of (fun a _ => ⟨by rw [o1], by rw [o2]⟩) (fun a k _ q => o7 a k q) x1.1, ?_, ?_⟩, ?_, ?_, fun a p q => ⟨by rw [o1], by rw [o2], o8 a (by omega) (by omega) (by omega) (by omega), by rw [o3], funext fun k => o6 a k (by omega)⟩⟩
  · have := x1.2.1
    unfold DY at this ⊢
    rw [o1, o2, o4, a1, a2, a3, a4, a5, a6]
    exact this
  · have := x1.2.2
    unfold Rm at this ⊢
    rw [o2, o4, o5, a1, a2, a3, a4, a5, a6]
    exact this
  · unfold CR RW at x4 ⊢
    rw [o2, o3, a6, o8 50 (by decide) (by decide) (by decide) (by decide), o8 (hR h 50 6) (by omega) (by omega) (by omega) (by omega)]
    exact x4
  · unfold CO OW at x5 ⊢
    rw [o3, o8 60 (by decide) (by decide) (by decide) (by decide), o8 63 (by decide) (by decide) (by decide) (by decide)]
    exact x5
theorem ClS.rd {d : Dt} {pl : List Nat} {v : Int32} (x : ClS s B M h) (o : Rdg h h') (hk : hR h' 2 2 = 4 ∧ hR h' 2 3 = 15 ∨ hR h' 2 2 = 15 ∧ hR h' 2 3 = 4) (dr : DrF' (fun j => hI h' (hR h' 2 2 + j)) d) (nf : NetF (fun j => hI h' (hR h' 2 2 + j)) d.1 d.2.2.1 d.2.2.2.2) (e3 : hI h' 3 = zT s) (e2 : hI h' 2 1 = 0) (e26 : hI h' 26 3 = v) (e28 : hI h' 28 = hI h 28) (pn : PLn h' pl) (e42 : ∀ k, k ≠ 3 → hI h' 42 k = hI h 42 k) (rc : RC h' d.1 d.2.2.1) : ClS (zsP s d pl v) B M h' := by
  obtain ⟨cw, cr, co, -⟩ := x.rdg o
  have e44 := o.2.2.2.2.2.2.2 44 (by decide) (by decide) (by decide) (by decide)
  obtain ⟨x1, ⟨w1, w2, w3, w4, w5, w6, w7⟩, ⟨x31, x32, x33, x34⟩, x4, x5, x6⟩ := x
  refine ⟨cw, ⟨hk, dr, nf, e3, e2, e26, fun j hj => by rw [e28]; exact w7 j hj⟩, ⟨pn, ?_, (e42 4 (by decide)).trans x33, (e42 5 (by decide)).trans x34⟩, cr, co, rc⟩
  unfold SPn at x32 ⊢
  rw [e42 7 (by decide), e44]
  exact x32
theorem MoS.rd {d : Dt} {pl : List Nat} {v : Int32} (y : MoS s h) (mo : MO A S J T h h2) (kA : ¬ A 67 ∧ ¬ A 68 ∧ ¬ A 83 ∧ ¬ A 88 ∧ ¬ A 98) (kS : ¬ S 31 ∧ ¬ S 40 ∧ ¬ S 51 ∧ ¬ S 52 ∧ ¬ S 53 ∧ ¬ S 56) (j67 : ¬ J 67) (kT : ¬ T 32 ∧ ¬ T 41) (mn : MN d h2) (e2 : hI h2 67 2 = 0) (e15 : hI h2 67 15 = v) (mp : MPl h2 pl) : MoS (zsP s d pl v) h2 := by
  obtain ⟨z0, z1, z6, z7, z8, z9, z10, z11, z12, z13⟩ := y
  obtain ⟨a67, a68, a83, a88, a98⟩ := kA
  obtain ⟨s31, s40, s51, s52, s53, s56⟩ := kS
  refine ⟨mo.ms z0, mn, (mo.row a68 (by decide)).trans z6, e2, e15, mp, ?_, ?_, ?_, ?_⟩
  · unfold MSp; rw [mo.fld a67 s56, mo.row a98 (by decide)]; exact z10
  · unfold MRw; rw [mo.fld a67 s31, mo.fldJ j67 kT.1, mo.row a83 (by decide)]; exact z11
  · unfold MOw; rw [mo.fld a67 s40, mo.fldJ j67 kT.2, mo.row a88 (by decide)]; exact z12
  · rw [mo.fld a67 s51, mo.fld a67 s52, mo.fld a67 s53]; exact z13
theorem ClS.rx (x : ClS s B M h) {kn : Nat} (hk : kn = 4 ∨ kn = 15) : RX (sR (sI h 2 1 0) 27 1 3) kn := by
  have c0 := x.1.1
  have c1 : CS0 (sR (sI h 2 1 0) 27 1 3) := CS0_of (h := h) (fun a _ => ⟨rfl, rfl⟩) (fun a k _ q => by
    rw [hR_sR, if_neg]
    · rfl
    · rintro ⟨rfl, rfl⟩
      exact absurd q (by decide)) c0
  have kw := x.2.1.2.2.2.2.2.2
  obtain ⟨h3, e3⟩ : ∃ h3, h3 = sR (sI h 2 1 0) 27 1 3 := ⟨_, rfl⟩
  rw [← e3] at c1 ⊢
  have r1 : hR h3 27 1 = 3 := by rw [e3, hR_sR, if_pos ⟨rfl, rfl⟩]
  have e28 : hI h3 28 = hI h 28 := by
    rw [e3]
    show hI (sI h 2 1 0) 28 = hI h 28
    exact hI_sI_o (by decide)
  have nf : F_net kn h3 := by
    rcases hk with q | q
    · rw [q]; exact c1.net4
    · rw [q]; exact c1.net15
  refine ⟨⟨by simp only [c1], by simp only [c1], r1, by simp only [c1], by simp only [c1], by simp only [c1], by simp only [c1], fun j hj => by rw [e28]; exact kw j hj⟩, hk, nf, by simp only [c1], by simp only [c1], by simp only [c1], by simp only [c1], by simp only [c1]⟩
theorem f129 (x : ClS s B M h) (y : MoS s h) (ok : SOK s) : PrI 129 [.ref 2] 211 [.ref 67] s B M h := by
  have c0 := x.1.1
  have hl := ok.2.2.2.2
  have hk := x.kn
  have h47 := r47 x
  have e3 : hI (sI h 2 1 0) 3 = zT s := (hI_sI_o (by decide)).trans x.2.1.2.2.2.1
  have fin : ∀ p' r' g' h3, h3 = setI (setI (setI (sR (sI h 2 1 0) 27 1 3) 30 p') 26 r') 27 g' → Rdg h h3 ∧ CS0 h3 ∧ (∀ k, hR h3 2 k = hR h 2 k) ∧ hI h3 26 = r' ∧ hI h3 30 = p' ∧ hI h3 2 1 = 0 ∧ ∀ a, a ≠ 2 → a ≠ 26 → a ≠ 27 → a ≠ 30 → hI h3 a = hI h a := fun p' r' g' h3 e => by
    have eR : ∀ a k, ¬ (a = 27 ∧ k = 1) → hR h3 a k = hR h a k := fun a k q => by
      rw [e]
      show hR (sR (sI h 2 1 0) 27 1 3) a k = _
      rw [hR_sR, if_neg q]
      rfl
    have eI : ∀ a, a ≠ 2 → a ≠ 26 → a ≠ 27 → a ≠ 30 → hI h3 a = hI h a := fun a h2 h26 h27 h30 => by
      rw [e, hI_setI, if_neg h27, hI_setI, if_neg h26, hI_setI, if_neg h30]
      exact hI_sI_o h2
    have eD : ∀ a k, dynR a k = false → hR h3 a k = hR h a k := fun a k q => eR a k (by
      rintro ⟨rfl, rfl⟩
      exact absurd q (by decide))
    have eT : hT h3 = hT h := by rw [e]; rfl
    have eL : hL h3 = hL h := by rw [e]; rfl
    refine ⟨⟨eT, eL, by rw [e]; rfl, by rw [e]; rfl, by rw [e]; rfl, fun a k q => eR a k (by omega), eD, fun a q1 q2 q3 q4 => eI a (by omega) (by omega) (by omega) (by omega)⟩, CS0_of (h := h) (fun a _ => ⟨by rw [eT], by rw [eL]⟩) (fun a k _ q => eD a k q) c0, fun k => eR 2 k (by omega), by rw [e]; rfl, by rw [e]; rfl, ?_, eI⟩
    rw [e]
    show hI (sI h 2 1 0) 2 1 = 0
    rw [hI_sI, if_pos ⟨rfl, rfl⟩]
  unfold PrI
  rw [we129]
  simp only [w129, c0, hs_sI, s109 x, zz]
  refine s71 (h := sI h 2 1 0) (d := zD s) (x.rx hk) hl (DrF.congr (fun j hj => hI_sI_o (by omega)) x.2.1.2.1) (fun p' r' g' pl z1 z2 z3 z4 z5 z6 z7 => ?_) (fun p' r' g' fk c' z1 z2 z3 z4 z5 => ?_)
  · rw [e3] at z1
    obtain ⟨h3, e⟩ : ∃ h3, h3 = setI (setI (setI (sR (sI h 2 1 0) 27 1 3) 30 p') 26 r') 27 g' := ⟨_, rfl⟩
    rw [← e]
    obtain ⟨rd3, c3, r2, e26, e30, e21, eI⟩ := fin p' r' g' h3 e
    simp only [w129, c3, e26, z5, mz, zz]
    refine s45 (h := h3) ⟨by simp only [c3], by simp only [c3], by simp only [c3], by simp only [c3], by simp only [c3], by simp only [c3]⟩ z2 fun f hf => ?_
    obtain ⟨h4, e4⟩ : ∃ h4, h4 = setI (sI h3 42 3 (nI pl.length)) 43 f := ⟨_, rfl⟩
    rw [← e4]
    have e43 : hI h4 43 = f := by rw [e4]; rfl
    have e42 : ∀ k, hI h4 42 k = if k = 3 then nI pl.length else hI h3 42 k := fun k => by
      rw [e4, hI_setI, if_neg (by decide), hI_sI]
      by_cases q : k = 3
      · rw [if_pos ⟨rfl, q⟩, if_pos q]
      · rw [if_neg (fun z => q z.2), if_neg q]
    have e4I : ∀ a, a ≠ 42 → a ≠ 43 → hI h4 a = hI h3 a := fun a q1 q2 => by
      rw [e4, hI_setI, if_neg q2]
      exact hI_sI_o q1
    have e4R : hR h4 = hR h3 := by rw [e4]; rfl
    have rd4 : Rdg h h4 := by
      obtain ⟨o1, o2, o3, o4, o5, o6, o7, o8⟩ := rd3
      refine ⟨by rw [e4]; exact o1, by rw [e4]; exact o2, by rw [e4]; exact o3, by rw [e4]; exact o4, by rw [e4]; exact o5, fun a k q => by rw [e4R]; exact o6 a k q, fun a k q => by rw [e4R]; exact o7 a k q, fun a q1 q2 q3 q4 => (e4I a q2 q3).trans (o8 a q1 q2 q3 q4)⟩
    have c4 : CS0 h4 := CS0_of (h := h) (fun a _ => ⟨by rw [rd4.1], by rw [rd4.2.1]⟩) (fun a k _ q => rd4.2.2.2.2.2.2.1 a k q) c0
    have e423 : hI h4 42 3 = nI pl.length := by rw [e42, if_pos rfl]
    simp only [w129, c4, e423, zz]
    refine ⟨_, rfl, ?_⟩
    obtain ⟨cw, cr, co, mm⟩ := x.rdg rd4
    have y1 := y.keep mm
    have r22 : ∀ k, hR h4 2 k = hR h 2 k := fun k => by rw [e4R]; exact r2 k
    have eh : ∀ a, a ≠ 2 → a ≠ 26 → a ≠ 27 → a ≠ 30 → a ≠ 42 → a ≠ 43 → hI h4 a = hI h a := fun a q1 q2 q3 q4 q5 q6 => (e4I a q5 q6).trans (eI a q1 q2 q3 q4)
    have x1 : ClS (zsP s (zD s) pl 0) B M h4 := by
      refine x.rd rd4 (by rw [r22, r22]; exact x.2.1.1) (by rw [r22]; exact DrF.congr (fun j hj => eh _ (by omega) (by omega) (by omega) (by omega) (by omega) (by omega)) x.2.1.2.1) (by rw [r22]; exact NetF.congr (fun j hj => eh _ (by omega) (by omega) (by omega) (by omega) (by omega) (by omega)) x.2.1.2.2.1) ((eh 3 (by decide) (by decide) (by decide) (by decide) (by decide) (by decide)).trans x.2.1.2.2.2.1) ((congrFun (e4I 2 (by decide) (by decide)) 1).trans e21) (by rw [e4I 26 (by decide) (by decide), e26]; exact z6) (eh 28 (by decide) (by decide) (by decide) (by decide) (by decide) (by decide)) ⟨e423, z2, fun j v q => ?_, z4⟩ (fun k q => by rw [e42, if_neg q, eI 42 (by decide) (by decide) (by decide) (by decide)]) ?_
      · have hj : j < pl.length := (List.getElem?_eq_some_iff.mp q).1
        rw [e43, hf j hj, e30]
        exact z3 j v q
      · have xc := x.2.2.2.2.2
        unfold CC RC RKn RLv at xc
        unfold RC RKn RLv
        rw [rd4.2.1, rd4.2.2.2.2.2.1 47 2 (by decide), eh 47 (by decide) (by decide) (by decide) (by decide) (by decide) (by decide), eh (hR h 47 2) (by omega) (by omega) (by omega) (by omega) (by omega) (by omega)]
        exact xc
    refine s211 (d := zD s) y1.1 (by rw [y1.2.2.1]; exact ok.2.2.2.1) hl y1.2.2.2.1 y1.2.1 (fun h2 pl2 q1 q2 q3 q4 q5 => ?_) (fun h2 fk c' q1 q2 q3 q4 q5 q6 q7 => ?_)
    · rw [y1.2.2.1] at q1
      have epl : pl2 = pl := Option.some.inj (q1.symm.trans z1)
      rw [epl] at q2 ⊢
      refine ⟨rfl, ?_⟩
      have y2 : MoS (zsP s (zD s) pl 0) h2 := y1.rd q3 (by unfold mpqA; omega) (by unfold mpqS mnS; omega) (fun z => z) (by unfold mnT; omega) (y1.2.1.mo q3 (by unfold mpqA; omega) (by unfold mpqA; omega) (by unfold mpqA; omega) (by unfold mpqA; omega) (by unfold mpqA; omega) (fun z => z)) q5 q4 q2
      exact Nx.of x1 y2 ⟨ok.1, ok.2.1, ok.2.2.1, ok.2.2.2.1, Nat.zero_le _⟩ rfl (Nat.zero_le _) (by rw [rd4.2.1, rd4.2.2.2.2.2.1 31 0 (by decide)]; exact Nat.le_refl _) (by rw [rd4.2.1, rd4.2.2.2.2.2.1 31 3 (by decide)]; exact Nat.le_refl _) (q3.csm (fun a z => by unfold mpqA at z; omega) nP_in)
    · rw [y1.2.2.1] at q1
      exact absurd (q1.symm.trans z1) (by intro z; cases z)
  · rw [e3] at z2 z3
    obtain ⟨h3, e⟩ : ∃ h3, h3 = setI (setI (setI (sR (sI h 2 1 0) 27 1 3) 30 p') 26 r') 27 g' := ⟨_, rfl⟩
    rw [← e]
    obtain ⟨rd3, c3, r2, e26, e30, e21, eI⟩ := fin p' r' g' h3 e
    simp only [w129, c3, e26, z5, mz, zz]
    refine ⟨_, rfl, ?_⟩
    obtain ⟨cw, cr, co, mm⟩ := x.rdg rd3
    have y1 := y.keep mm
    have x1 : ClS (zsP s (zD s) (zP s) (nI fk)) B M h3 := by
      refine x.rd rd3 (by rw [r2, r2]; exact x.2.1.1) (by rw [r2]; exact DrF.congr (fun j hj => eI _ (by omega) (by omega) (by omega) (by omega)) x.2.1.2.1) (by rw [r2]; exact NetF.congr (fun j hj => eI _ (by omega) (by omega) (by omega) (by omega)) x.2.1.2.2.1) ((eI 3 (by decide) (by decide) (by decide) (by decide)).trans x.2.1.2.2.2.1) e21 (by rw [e26]; exact z4) (eI 28 (by decide) (by decide) (by decide) (by decide)) ?_ (fun k q => by rw [eI 42 (by decide) (by decide) (by decide) (by decide)]) ?_
      · have xp := x.2.2.1.1
        unfold PLn at xp ⊢
        rw [eI 42 (by decide) (by decide) (by decide) (by decide), eI 43 (by decide) (by decide) (by decide) (by decide)]
        exact xp
      · have xc := x.2.2.2.2.2
        unfold CC RC RKn RLv at xc
        unfold RC RKn RLv
        rw [rd3.2.1, rd3.2.2.2.2.2.1 47 2 (by decide), eI 47 (by decide) (by decide) (by decide) (by decide), eI (hR h 47 2) (by omega) (by omega) (by omega) (by omega)]
        exact xc
    refine s211 (d := zD s) y1.1 (by rw [y1.2.2.1]; exact ok.2.2.2.1) hl y1.2.2.2.1 y1.2.1 (fun h2 pl2 q1 q2 q3 q4 q5 => ?_) (fun h2 fk2 c2 q1 q2 q3 q4 q5 q6 q7 => ?_)
    · rw [y1.2.2.1] at q1
      exact absurd (q1.symm.trans z2) (by intro z; cases z)
    · rw [y1.2.2.1] at q1 q2
      have efc := q2.symm.trans z3
      have e1 : fk2 = fk := congrArg Prod.fst efc
      have e2 : c2 = c' := congrArg Prod.snd efc
      rw [e1] at q6
      rw [e2]
      refine ⟨rfl, ?_⟩
      have y2 : MoS (zsP s (zD s) (zP s) (nI fk)) h2 := y1.rd q5 (by unfold mpqA; omega) (by unfold mpqS mnS; omega) (fun z => z) (by unfold mnT; omega) (y1.2.1.mo q5 (by unfold mpqA; omega) (by unfold mpqA; omega) (by unfold mpqA; omega) (by unfold mpqA; omega) (by unfold mpqA; omega) (fun z => z)) q7 q6 (q4 _ y1.2.2.2.2.2.1)
      exact Nx.of x1 y2 ⟨ok.1, ok.2.1, ok.2.2.1, ok.2.2.2.1, Nat.zero_le _⟩ rfl (Nat.zero_le _) (by rw [rd3.2.1, rd3.2.2.2.2.2.1 31 0 (by decide)]; exact Nat.le_refl _) (by rw [rd3.2.1, rd3.2.2.2.2.2.1 31 3 (by decide)]; exact Nat.le_refl _) (q5.csm (fun a z => by unfold mpqA at z; omega) nP_in)
end Fn

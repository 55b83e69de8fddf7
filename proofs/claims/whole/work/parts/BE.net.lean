/-! ===== THE FACE: net ===== -/
section Fo
variable {s : SG} {B M : Nat} {h h' h1 h2 : AH} {Q : Option Value → AH → Prop} {A S J T : Nat → Prop}
/-- an empty tape is no NET -/
theorem rdN_0 (t : Nat → Int32) : (rdN t 0 501 d00 c00).2 = none := by
  have e : (nxt t 0 c00).1 = 10 := by
    unfold nxt tok
    rw [if_pos (by rw [Nat.zero_min]; exact Nat.zero_le _)]
  show (if (nxt t 0 c00).1 = 10 then (if 500 < 0 ∨ d00.2.2.2.2 = 0 then ((1, nxt t 0 c00), none) else ((0, nxt t 0 c00), some d00)) else (match rdLn t 0 d00 (nxt t 0 c00) with
      | (e, none) => (e, none)
      | (_, some (d', c')) => rdN t 0 500 d' c') : (Nat × TT) × Option Dt).2 = none
  rw [if_pos e, if_pos (show 500 < 0 ∨ d00.2.2.2.2 = 0 from Or.inr rfl)]
theorem swR (h : AH) (u v : Nat) : hR (sR (sR h 2 2 u) 2 3 v) 2 2 = u ∧ hR (sR (sR h 2 2 u) 2 3 v) 2 3 = v ∧ hR (sR (sR h 2 2 u) 2 3 v) 2 6 = hR h 2 6 := by
  refine ⟨?_, ?_, ?_⟩
  · rw [hR_sR, if_neg (by decide), hR_sR, if_pos ⟨rfl, rfl⟩]
  · rw [hR_sR, if_pos ⟨rfl, rfl⟩]
  · rw [hR_sR, if_neg (by decide), hR_sR, if_neg (by decide)]
theorem f108 (x : ClS s B M h) (y : MoS s h) (ok : SOK s) : PrI 108 [.ref 2] 167 [.ref 67] s B M h := by
  have c0 := x.1.1
  have hl := ok.2.2.2.2
  have h47 := r47 x
  obtain ⟨kn, hkn⟩ : ∃ kn, kn = hR h 2 3 := ⟨_, rfl⟩
  obtain ⟨k0, hk0⟩ : ∃ k0, k0 = hR h 2 2 := ⟨_, rfl⟩
  have kk := x.2.1.1
  rw [← hkn, ← hk0] at kk
  have hk : kn = 4 ∨ kn = 15 := by omega
  have e3 : hI (sI h 2 1 0) 3 = zT s := (hI_sI_o (by decide)).trans x.2.1.2.2.2.1
  have fin : ∀ F' r' g' h3, h3 = RHp (sR (sI h 2 1 0) 27 1 3) kn F' r' g' → Rdg h h3 ∧ CS0 h3 ∧ (∀ k, hR h3 2 k = hR h 2 k) ∧ hI h3 26 = r' ∧ (∀ j, j ≤ 10 → hI h3 (kn + j) = F' j) ∧ hI h3 2 1 = 0 ∧ ∀ a, a ≠ 2 → a ≠ 26 → a ≠ 27 → (a < kn ∨ kn + 10 < a) → hI h3 a = hI h a := fun F' r' g' h3 e => by
    have eR : ∀ a k, ¬ (a = 27 ∧ k = 1) → hR h3 a k = hR h a k := fun a k q => by
      rw [e]
      show hR (sR (sI h 2 1 0) 27 1 3) a k = _
      rw [hR_sR, if_neg q]
      rfl
    have eI : ∀ a, a ≠ 2 → a ≠ 26 → a ≠ 27 → (a < kn ∨ kn + 10 < a) → hI h3 a = hI h a := fun a h2 h26 h27 h30 => by
      rw [e]
      unfold RHp
      rw [NHp_o h30, hI_setI, if_neg h27, hI_setI, if_neg h26]
      exact hI_sI_o h2
    have eD : ∀ a k, dynR a k = false → hR h3 a k = hR h a k := fun a k q => eR a k (by
      rintro ⟨rfl, rfl⟩
      exact absurd q (by decide))
    have eT : hT h3 = hT h := by rw [e]; rfl
    have eL : hL h3 = hL h := by rw [e]; rfl
    refine ⟨⟨eT, eL, by rw [e]; rfl, by rw [e]; rfl, by rw [e]; rfl, fun a k q => eR a k (by omega), eD, fun a q1 q2 q3 q4 => eI a (by omega) (by omega) (by omega) (by omega)⟩, CS0_of (h := h) (fun a _ => ⟨by rw [eT], by rw [eL]⟩) (fun a k _ q => eD a k q) c0, fun k => eR 2 k (by omega), ?_, fun j hj => ?_, ?_, eI⟩
    · rw [e]
      unfold RHp
      rw [NHp_o (by omega)]
      rfl
    · rw [e]
      exact NHp_I hj
    · rw [e]
      unfold RHp
      rw [NHp_o (by omega)]
      show hI (sI h 2 1 0) 2 1 = 0
      rw [hI_sI, if_pos ⟨rfl, rfl⟩]
  unfold PrI
  rw [we108]
  simp only [w108, c0, hs_sI, s109 x, zz]
  rw [← hkn]
  refine s66 (h := sI h 2 1 0) hk (x.rx hk) hl (fun F' g' d' z1 z2 z3 z4 z5 => ?_) (fun F' g' fk c' z1 z2 z3 => ?_)
  · rw [e3] at z1
    obtain ⟨h3, e⟩ : ∃ h3, h3 = RHp (sR (sI h 2 1 0) 27 1 3) kn F' (rg0 (sI h 2 1 0)) g' := ⟨_, rfl⟩
    rw [← e]
    obtain ⟨rd3, c3, r2, e26, eF, e21, eI⟩ := fin F' _ g' h3 e
    have r22 : hR h3 2 2 = k0 := (r2 2).trans hk0.symm
    have r23 : hR h3 2 3 = kn := (r2 3).trans hkn.symm
    have tk : hT h3 kn = 4 := by
      rcases hk with q | q
      · rw [q]; simp only [c3]
      · rw [q]; simp only [c3]
    have sw := swR h3 kn k0
    have p51 := fun (Q : Option Value → AH → Prop) => s51 (Q := Q) (h := sR (sR h3 2 2 kn) 2 3 k0) c3.2.2.2.2.2.2.2.2.1
    obtain ⟨h4, e4⟩ : ∃ h4, h4 = sI (sR (sR h3 2 2 kn) 2 3 k0) 47 6 (-1) := ⟨_, rfl⟩
    have e4I : ∀ a, a ≠ 47 → hI h4 a = hI h3 a := fun a q => by
      rw [e4]
      exact hI_sI_o q
    have e4R : hR h4 = hR (sR (sR h3 2 2 kn) 2 3 k0) := by rw [e4]; rfl
    have e4a : ∀ a k, a ≠ 2 → hR h4 a k = hR h3 a k := fun a k q => by
      rw [e4R, hR_sR, if_neg (fun z => q z.1), hR_sR, if_neg (fun z => q z.1)]
    have rd4 : Rdg h h4 := by
      obtain ⟨o1, o2, o3, o4, o5, o6, o7, o8⟩ := rd3
      refine ⟨by rw [e4]; exact o1, by rw [e4]; exact o2, by rw [e4]; exact o3, by rw [e4]; exact o4, by rw [e4]; exact o5, fun a k q => by rw [e4a a k (by omega)]; exact o6 a k q, fun a k q => ?_, fun a q1 q2 q3 q4 => (e4I a q4).trans (o8 a q1 q2 q3 q4)⟩
      rw [e4R, hR_sR, if_neg, hR_sR, if_neg]
      · exact o7 a k q
      · rintro ⟨rfl, rfl⟩
        exact absurd q (by decide)
      · rintro ⟨rfl, rfl⟩
        exact absurd q (by decide)
    have t4 : hT h4 kn = 4 := by rw [e4]; exact tk
    have t42 : hT h4 2 = 12 := by rw [rd4.1]; exact c0.1
    have q2 : hR h4 2 2 = kn := by rw [e4R]; exact sw.1
    have q3 : hR h4 2 3 = k0 := by rw [e4R]; exact sw.2.1
    have ek : ∀ j, j ≤ 10 → hI h4 (kn + j) = F' j := fun j hj => (e4I _ (by omega)).trans (eF j hj)
    have ek0 : hI h4 kn 0 = nI d'.1 := by
      have := ek 0 (Nat.zero_le _)
      rw [Nat.add_zero] at this
      rw [this]
      exact z2.2.1
    simp only [w108, c3, hs_sR, r22, r23, sw, mz, p51, ← e4, t42, t4, q2, ek0, zz]
    refine ⟨_, rfl, ?_⟩
    obtain ⟨cw, cr, co, mm⟩ := x.rdg rd4
    have y1 := y.keep mm
    have eh : ∀ a, a ≠ 2 → a ≠ 26 → a ≠ 27 → a ≠ 47 → (a < kn ∨ kn + 10 < a) → hI h4 a = hI h a := fun a q1 q2 q3 q4 q5 => (e4I a q4).trans (eI a q1 q2 q3 q5)
    have x1 : ClS (zsP s d' (zP s) 0) B M h4 := by
      refine x.rd rd4 (by rw [q2, q3]; omega) (by rw [q2]; exact DrF.congr ek z2) (by rw [q2]; exact NetF.congr ek z5) ((eh 3 (by decide) (by decide) (by decide) (by decide) (by omega)).trans x.2.1.2.2.2.1) ((congrFun (e4I 2 (by decide)) 1).trans e21) ?_ (eh 28 (by decide) (by decide) (by decide) (by decide) (by omega)) ?_ (fun k q => by rw [eh 42 (by decide) (by decide) (by decide) (by decide) (by omega)]) (Or.inl ?_)
      · rw [e4I 26 (by decide), e26]
        unfold rg0
        rw [up_at, if_neg (by decide), up_at, if_pos rfl]
      · have xp := x.2.2.1.1
        unfold PLn at xp ⊢
        rw [eh 42 (by decide) (by decide) (by decide) (by decide) (by omega), eh 43 (by decide) (by decide) (by decide) (by decide) (by omega)]
        exact xp
      · rw [e4, hI_sI, if_pos ⟨rfl, rfl⟩]
    refine s167 y1.1 (by rw [y1.2.2.1]; exact ok.2.2.2.1) hl y1.2.2.2.1 (fun h2 d2 u1 u2 u3 u4 u5 u6 => ?_) (fun h2 fk c' u1 u2 u3 u4 u5 u6 u7 => ?_)
    · rw [y1.2.2.1] at u1
      have ed : d2 = d' := Option.some.inj (u1.symm.trans z1)
      rw [ed] at u2 ⊢
      refine ⟨rfl, ?_⟩
      have mp : MPl h2 (zP s) := by
        unfold MPl
        rw [u4.fld (by unfold mnA; omega) (by unfold mnS; omega), u4.row (by unfold mnA; omega) (by decide)]
        exact y1.2.2.2.2.2.1
      have y2 : MoS (zsP s d' (zP s) 0) h2 := y1.rd u4 (by unfold mnA; omega) (by unfold mnS; omega) (by unfold mnJ; omega) (by unfold mnT; omega) u2 u6 u5 mp
      have cs := u4.csm (fun a z => by unfold mnA at z; omega) (fun a z => by unfold mnJ at z; omega)
      refine ⟨_, B, M, 0, x1.keep cs, y2, ⟨z3.1, z3.2, fun _ => Nat.pos_of_ne_zero z4, ok.2.2.2.1, Nat.zero_le _⟩, by omega, by omega, ?_⟩
      have hL0 : zL s ≠ 0 := fun z => by
        rw [z, rdN_0] at z1
        cases z1
      have e0 : (if zL (zsP s d' (zP s) 0) = 0 then 0 else 1) = 0 := if_pos rfl
      unfold ph
      rw [e0, if_neg hL0]
      split <;> omega
    · rw [y1.2.2.1] at u1
      exact absurd (u1.symm.trans z1) (by intro z; cases z)
  · rw [e3] at z2 z3
    obtain ⟨h3, e⟩ : ∃ h3, h3 = RHp (sR (sI h 2 1 0) 27 1 3) kn F' (va_up (va_up (rg0 (sI h 2 1 0)) 3 (nI fk)) 4 (nI c'.2.1)) g' := ⟨_, rfl⟩
    rw [← e]
    obtain ⟨rd3, c3, r2, e26, eF, e21, eI⟩ := fin F' _ g' h3 e
    have e264 : hI h3 26 4 = nI c'.2.1 := by rw [e26, up_at, if_pos rfl]
    have e263 : hI h3 26 3 = nI fk := by rw [e26, up_at, if_neg (by decide), up_at, if_pos rfl]
    simp only [w108, c3, e264, mz, zz]
    refine ⟨_, rfl, ?_⟩
    obtain ⟨cw, cr, co, mm⟩ := x.rdg rd3
    have y1 := y.keep mm
    have x1 : ClS (zsP s (zD s) (zP s) (nI fk)) B M h3 := by
      refine x.rd rd3 (by rw [r2, r2]; exact x.2.1.1) (by rw [r2]; exact DrF.congr (fun j hj => eI _ (by omega) (by omega) (by omega) (by omega)) x.2.1.2.1) (by rw [r2]; exact NetF.congr (fun j hj => eI _ (by omega) (by omega) (by omega) (by omega)) x.2.1.2.2.1) ((eI 3 (by decide) (by decide) (by decide) (by omega)).trans x.2.1.2.2.2.1) e21 e263 (eI 28 (by decide) (by decide) (by decide) (by omega)) ?_ (fun k q => by rw [eI 42 (by decide) (by decide) (by decide) (by omega)]) ?_
      · have xp := x.2.2.1.1
        unfold PLn at xp ⊢
        rw [eI 42 (by decide) (by decide) (by decide) (by omega), eI 43 (by decide) (by decide) (by decide) (by omega)]
        exact xp
      · have xc := x.2.2.2.2.2
        unfold CC RC RKn RLv at xc
        unfold RC RKn RLv
        rw [rd3.2.1, rd3.2.2.2.2.2.1 47 2 (by decide), eI 47 (by decide) (by decide) (by decide) (by omega), eI (hR h 47 2) (by omega) (by omega) (by omega) (by omega)]
        exact xc
    refine s167 y1.1 (by rw [y1.2.2.1]; exact ok.2.2.2.1) hl y1.2.2.2.1 (fun h2 d2 u1 u2 u3 u4 u5 u6 => ?_) (fun h2 fk2 c2 u1 u2 u3 u4 u5 u6 u7 => ?_)
    · rw [y1.2.2.1] at u1
      exact absurd (u1.symm.trans z2) (by intro z; cases z)
    · rw [y1.2.2.1] at u1 u2
      have efc := u2.symm.trans z3
      have e1 : fk2 = fk := congrArg Prod.fst efc
      have e2 : c2 = c' := congrArg Prod.snd efc
      rw [e1] at u6
      rw [e2]
      refine ⟨rfl, ?_⟩
      have mp : MPl h2 (zP s) := by
        unfold MPl
        rw [u5.fld (by unfold mnA; omega) (by unfold mnS; omega), u5.row (by unfold mnA; omega) (by decide)]
        exact y1.2.2.2.2.2.1
      have y2 : MoS (zsP s (zD s) (zP s) (nI fk)) h2 := y1.rd u5 (by unfold mnA; omega) (by unfold mnS; omega) (by unfold mnJ; omega) (by unfold mnT; omega) (u4 _ y1.2.1) u7 u6 mp
      exact Nx.of x1 y2 ⟨ok.1, ok.2.1, ok.2.2.1, ok.2.2.2.1, Nat.zero_le _⟩ rfl (Nat.zero_le _) (by rw [rd3.2.1, rd3.2.2.2.2.2.1 31 0 (by decide)]; exact Nat.le_refl _) (by rw [rd3.2.1, rd3.2.2.2.2.2.1 31 3 (by decide)]; exact Nat.le_refl _) (u5.csm (fun a z => by unfold mnA at z; omega) (fun a z => by unfold mnJ at z; omega))
end Fo

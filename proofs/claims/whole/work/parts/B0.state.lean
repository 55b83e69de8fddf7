/-! ===== THE JOINT STATE: the class's cells, the reference's cells, and what keeps each ===== -/
/-- tape, its length, the NET, the plan, the kept places, the row of acts and how many, the order and how many, the fault, judged -/
abbrev SG : Type := (Nat → Int32) × Nat × Dt × List Nat × List Nat × (List Nat × Nat) × (List Nat × Nat) × Int32 × Int32 × Int32
def zT (s : SG) : Nat → Int32 := s.1
def zL (s : SG) : Nat := s.2.1
def zD (s : SG) : Dt := s.2.2.1
def zP (s : SG) : List Nat := s.2.2.2.1
def zK (s : SG) : List Nat := s.2.2.2.2.1
def zR (s : SG) : List Nat × Nat := s.2.2.2.2.2.1
def zO (s : SG) : List Nat × Nat := s.2.2.2.2.2.2.1
def zF (s : SG) : Int32 := s.2.2.2.2.2.2.2.1
def zM (s : SG) : Int32 := s.2.2.2.2.2.2.2.2.1
def zC (s : SG) : Int32 := s.2.2.2.2.2.2.2.2.2
def zn (s : SG) : Nat := (zD s).1
def zQ (s : SG) : Nat → Nat := (zD s).2.2.1
def zw (s : SG) : Nat := (zD s).2.2.2.2
def zc (s : SG) : Nat → Nat := (zD s).2.2.2.1
/-- what is said of the state alone -/
def SOK (s : SG) : Prop := PartsOK (zn s) (zQ s) ∧ zw s < 2 ^ zn s ∧ (0 < zn s → 0 < zw s) ∧ TpB (zT s) ∧ zL s ≤ 540
/-- the class: tape, NETs, reader -/
def CB (s : SG) (h : AH) : Prop := (hR h 2 2 = 4 ∧ hR h 2 3 = 15 ∨ hR h 2 2 = 15 ∧ hR h 2 3 = 4) ∧ DrF' (fun j => hI h (hR h 2 2 + j)) (zD s) ∧ NetF (fun j => hI h (hR h 2 2 + j)) (zn s) (zQ s) (zw s) ∧ hI h 3 = zT s ∧ hI h 2 1 = nI (zL s) ∧ hI h 26 3 = zF s ∧ ∀ j, j < 7 → hI h 28 j = nI (kwf j)
def CP (s : SG) (h : AH) : Prop := PLn h (zP s) ∧ SPn h (zK s) ∧ hI h 42 4 = zM s ∧ hI h 42 5 = zC s
def CR (s : SG) (h : AH) : Prop := RW h (zR s).1 (zR s).2
def CO (s : SG) (h : AH) : Prop := OW h (zO s).1 (zO s).2
def CC (s : SG) (h : AH) : Prop := RC h (zn s) (zQ s)
def ClS (s : SG) (B M : Nat) (h : AH) : Prop := CW B M h ∧ CB s h ∧ CP s h ∧ CR s h ∧ CO s h ∧ CC s h
/-- the reference -/
def MoS (s : SG) (h : AH) : Prop := MS0 h ∧ MN (zD s) h ∧ hI h 68 = zT s ∧ hI h 67 2 = nI (zL s) ∧ hI h 67 15 = zF s ∧ MPl h (zP s) ∧ MSp h (zK s) ∧ MRw h (zR s).1 (zR s).2 ∧ MOw h (zO s).1 (zO s).2 ∧ ((hI h 67 51 = 0 ∧ zM s = -1 ∧ zC s = -1) ∨ (hI h 67 51 = 1 ∧ hI h 67 52 = zM s ∧ hI h 67 53 = zC s))
/-! frames -/
def MSm (h h' : AH) : Prop := ∀ a, 67 ≤ a → a < 100 → hT h' a = hT h a ∧ hL h' a = hL h a ∧ hI h' a = hI h a ∧ hJ h' a = hJ h a ∧ hR h' a = hR h a
theorem MSm.rf {h : AH} : MSm h h := fun _ _ _ => ⟨rfl, rfl, rfl, rfl, rfl⟩
theorem MSm.trans {h h1 h2 : AH} (a : MSm h h1) (b : MSm h1 h2) : MSm h h2 := fun x p q => by
  obtain ⟨a1, a2, a3, a4, a5⟩ := a x p q
  obtain ⟨b1, b2, b3, b4, b5⟩ := b x p q
  exact ⟨b1.trans a1, b2.trans a2, b3.trans a3, b4.trans a4, b5.trans a5⟩
def CSm (h h' : AH) : Prop := hT h' = hT h ∧ hL h' = hL h ∧ hR h' = hR h ∧ hN h' = hN h ∧ hS h' = hS h ∧ ∀ a, a < 67 ∨ 100 ≤ a → hI h' a = hI h a ∧ hJ h' a = hJ h a
theorem MO.csm {A S J T : Nat → Prop} {h h' : AH} (m : MO A S J T h h') (hA : ∀ a, A a → 67 ≤ a ∧ a < 100) (hJ' : ∀ a, J a → 67 ≤ a ∧ a < 100) : CSm h h' := by
  refine ⟨m.1, m.2.1, m.2.2.1, m.2.2.2.1, m.2.2.2.2.1, fun a ha => ⟨m.row (fun z => ?_) (by omega), m.rowJ (fun z => ?_) (by omega)⟩⟩
  · have := hA a z; omega
  · have := hJ' a z; omega
theorem MoS.keep {s : SG} {h h' : AH} (m : MSm h h') (y : MoS s h) : MoS s h' := by
  obtain ⟨y0, ⟨⟨y1, y2, y3⟩, y4, y5⟩, y6, y7, y8, y9, y10, y11, y12, y13⟩ := y
  have e : ∀ a, 67 ≤ a → a < 100 → hI h' a = hI h a := fun a p q => (m a p q).2.2.1
  have eJ : ∀ a, 67 ≤ a → a < 100 → hJ h' a = hJ h a := fun a p q => (m a p q).2.2.2.1
  have e67 := e 67 (by decide) (by decide)
  have j67 := eJ 67 (by decide) (by decide)
  refine ⟨?_, ⟨⟨?_, ?_, fun x hx => ?_⟩, y4, fun k hk => ?_⟩, ?_, ?_, ?_, ?_, ?_, ?_, ?_, ?_⟩
  · obtain ⟨q0, q1, q2, q3, q4, q5, q6, q7, q8, q9, q10, q11, q12, q13, q14, q15, q16, q17, q18, q19, q20, q21, q22, q23, q24, q25, q26, q27, q28, q29, q30, q31, q32, q33, q34, q35, q36, q37, q38, q39, q40, q41, q42, q43, q44, q45, q46, q47, q48, q49, q50, q51, q52, q53, q54, q55, q56, q57, q58, q59, q60, q61, q62, q63, q64, q65, q66, q67, q68, q69, q70, q71, q72, q73, q74, q75, q76, q77, q78, q79, q80, q81, q82, q83, q84, q85, q86, q87, q88, q89, q90, q91, q92, q93, q94, q95⟩ := y0
    have r67 := (m 67 (by decide) (by decide)).2.2.2.2
    have t : ∀ a, 67 ≤ a → a < 100 → hT h' a = hT h a := fun a p q => (m a p q).1
    have l : ∀ a, 67 ≤ a → a < 100 → hL h' a = hL h a := fun a p q => (m a p q).2.1
    unfold MS0
    rw [r67, t 67 (by decide) (by decide), t 68 (by decide) (by decide), l 68 (by decide) (by decide), t 69 (by decide) (by decide), l 69 (by decide) (by decide), t 70 (by decide) (by decide), l 70 (by decide) (by decide), t 71 (by decide) (by decide), l 71 (by decide) (by decide), t 72 (by decide) (by decide), l 72 (by decide) (by decide), t 73 (by decide) (by decide), l 73 (by decide) (by decide), t 74 (by decide) (by decide), l 74 (by decide) (by decide), t 75 (by decide) (by decide), l 75 (by decide) (by decide), t 76 (by decide) (by decide), l 76 (by decide) (by decide), t 77 (by decide) (by decide), l 77 (by decide) (by decide), t 78 (by decide) (by decide), l 78 (by decide) (by decide), t 79 (by decide) (by decide), l 79 (by decide) (by decide), t 80 (by decide) (by decide), l 80 (by decide) (by decide), t 81 (by decide) (by decide), l 81 (by decide) (by decide), t 82 (by decide) (by decide), l 82 (by decide) (by decide), t 83 (by decide) (by decide), l 83 (by decide) (by decide), t 84 (by decide) (by decide), l 84 (by decide) (by decide), t 85 (by decide) (by decide), l 85 (by decide) (by decide), t 86 (by decide) (by decide), l 86 (by decide) (by decide), t 87 (by decide) (by decide), l 87 (by decide) (by decide), t 88 (by decide) (by decide), l 88 (by decide) (by decide), t 89 (by decide) (by decide), l 89 (by decide) (by decide), t 90 (by decide) (by decide), l 90 (by decide) (by decide), t 91 (by decide) (by decide), l 91 (by decide) (by decide), t 92 (by decide) (by decide), l 92 (by decide) (by decide), t 93 (by decide) (by decide), l 93 (by decide) (by decide), t 94 (by decide) (by decide), l 94 (by decide) (by decide), t 95 (by decide) (by decide), l 95 (by decide) (by decide), t 96 (by decide) (by decide), l 96 (by decide) (by decide), t 97 (by decide) (by decide), l 97 (by decide) (by decide), t 98 (by decide) (by decide), l 98 (by decide) (by decide), t 99 (by decide) (by decide), l 99 (by decide) (by decide)]
    exact ⟨q0, q1, q2, q3, q4, q5, q6, q7, q8, q9, q10, q11, q12, q13, q14, q15, q16, q17, q18, q19, q20, q21, q22, q23, q24, q25, q26, q27, q28, q29, q30, q31, q32, q33, q34, q35, q36, q37, q38, q39, q40, q41, q42, q43, q44, q45, q46, q47, q48, q49, q50, q51, q52, q53, q54, q55, q56, q57, q58, q59, q60, q61, q62, q63, q64, q65, q66, q67, q68, q69, q70, q71, q72, q73, q74, q75, q76, q77, q78, q79, q80, q81, q82, q83, q84, q85, q86, q87, q88, q89, q90, q91, q92, q93, q94, q95⟩
  · rw [e 72 (by decide) (by decide)]; exact y1
  · rw [e 73 (by decide) (by decide)]; exact y2
  · rw [e 70 (by decide) (by decide)]; exact y3 x hx
  · rw [e 71 (by decide) (by decide), e 74 (by decide) (by decide), eJ 69 (by decide) (by decide)]; exact y5 k hk
  · rw [e 68 (by decide) (by decide)]; exact y6
  · rw [e67]; exact y7
  · rw [e67]; exact y8
  · unfold MPl; rw [e67, e 95 (by decide) (by decide)]; exact y9
  · unfold MSp; rw [e67, e 98 (by decide) (by decide)]; exact y10
  · unfold MRw; rw [e67, j67, e 83 (by decide) (by decide)]; exact y11
  · unfold MOw; rw [e67, j67, e 88 (by decide) (by decide)]; exact y12
  · rw [e67]; exact y13
theorem DrF.congr {F F' : Nat → Nat → Int32} {n wi : Nat} {nm P C : Nat → Nat} (e : ∀ j, j ≤ 10 → F' j = F j) (x : DrF F n nm P C wi) : DrF F' n nm P C wi := by
  unfold DrF at x ⊢
  rw [e 0 (by decide), e 1 (by decide), e 2 (by decide), e 3 (by decide)]
  exact x
theorem NetF.congr {F F' : Nat → Nat → Int32} {n wi : Nat} {P : Nat → Nat} (e : ∀ j, j ≤ 10 → F' j = F j) (x : NetF F n P wi) : NetF F' n P wi := by
  unfold NetF at x ⊢
  rw [e 0 (by decide), e 4 (by decide), e 5 (by decide), e 6 (by decide), e 7 (by decide), e 8 (by decide), e 9 (by decide)]
  exact x
section Kp
variable {s : SG} {B M : Nat} {h h' : AH} {A J : Nat → Prop}
theorem CFr.keepJ (cf : CFr A J h h') (cw : CW B M h) {a : Nat} (ha : a < 100) (h35 : a ≠ 35) (hJ' : ¬ J a) : hJ h' a = hJ h a := by
  have h100 := cw.c100
  refine (cf.1.2.2.1 a (by omega)).2.2.2 (fun z => ?_)
  rcases z with z | z
  · exact hJ' z
  · rcases cw.2.1.2.2.2.2.1.2.2.2.1 with q | q <;> omega
theorem CFr.msm (cf : CFr A J h h') (cw : CW B M h) (hA : ∀ a, 67 ≤ a → a < 100 → ¬ A a ∧ ¬ J a) : MSm h h' := fun a p q => by
  have h100 := cw.c100
  have x := cf.1.2.2.1 a (by omega)
  refine ⟨x.1, x.2.1, cf.keep cw q (by omega) (hA a p q).1, cf.keepJ cw q (by omega) (hA a p q).2, ?_⟩
  funext k
  refine cf.1.2.2.2 a k (by omega) ?_
  unfold dynR
  simp [show ¬ a = 2 by omega, show ¬ a = 27 by omega, show ¬ a = 31 by omega, show ¬ a = 42 by omega, show ¬ a = 47 by omega, show ¬ a = 50 by omega, show ¬ a = 55 by omega, show ¬ a = 60 by omega, show ¬ a = 64 by omega]
theorem CB.cf (x : CB s h) (cf : CFr A J h h') (cw : CW B M h) (hA : ∀ a, a ≤ 30 → ¬ A a) : CB s h' := by
  obtain ⟨x1, x2, x3, x4, x5, x6, x7⟩ := x
  have e2 : hR h' 2 2 = hR h 2 2 := cf.2.2.2.2.2.2.2.1
  have e3 : hR h' 2 3 = hR h 2 3 := cf.2.2.2.2.2.2.2.2.1
  have e : ∀ a, a ≤ 30 → hI h' a = hI h a := fun a ha => cf.keep cw (by omega) (by omega) (hA a ha)
  have hk : hR h 2 2 ≤ 15 := by rcases x1 with q | q <;> omega
  refine ⟨by rw [e2, e3]; exact x1, ?_, ?_, by rw [e 3 (by decide)]; exact x4, by rw [e 2 (by decide)]; exact x5, by rw [e 26 (by decide)]; exact x6, fun j hj => by rw [e 28 (by decide)]; exact x7 j hj⟩
  · rw [e2]
    exact DrF.congr (fun j hj => e _ (by omega)) x2
  · rw [e2]
    exact NetF.congr (fun j hj => e _ (by omega)) x3
theorem CP.cf (x : CP s h) (cf : CFr A J h h') (cw : CW B M h) (h42 : ¬ A 42) (h43 : ¬ A 43) (h44 : ¬ A 44) : CP s h' := by
  unfold CP PLn SPn at x ⊢
  rw [cf.keep cw (a := 42) (by decide) (by decide) h42, cf.keep cw (a := 43) (by decide) (by decide) h43, cf.keep cw (a := 44) (by decide) (by decide) h44]
  exact x
theorem CR.cf (x : CR s h) (cf : CFr A J h h') (cw : CW B M h) (h50 : ¬ A 50) (h6 : ¬ A (hR h 50 6)) (j50 : ¬ J 50) : CR s h' := by
  have h100 := cw.c100
  have e6 : hR h' 50 6 = hR h 50 6 := (cf.2.2.2.2.2.2.2.2.2.2.1 (by omega)).resolve_left h50
  have hb := cw.bl.2.2.2.2.2
  obtain ⟨-, -, -, -, a5, -, -, -, a9, -, -, a12, -, -, -⟩ := cw.ap
  have x6 := cf.1.2.2.1 (hR h 50 6) hb
  have eI : hI h' (hR h 50 6) = hI h (hR h 50 6) := x6.2.2.1 (fun z => by
    rcases z with z | z | z | z
    · exact h6 z
    · exact a5 z.symm
    · exact a9 z.symm
    · exact a12 z.symm)
  unfold CR RW at x ⊢
  rw [cf.keep cw (a := 50) (by decide) (by decide) h50, cf.keepJ cw (a := 50) (by decide) (by decide) j50, e6, x6.2.1, eI]
  exact x
theorem CO.cf (x : CO s h) (cf : CFr A J h h') (cw : CW B M h) (h60 : ¬ A 60) (h63 : ¬ A 63) (j60 : ¬ J 60) : CO s h' := by
  unfold CO OW at x ⊢
  rw [cf.keep cw (a := 60) (by decide) (by decide) h60, cf.keep cw (a := 63) (by decide) (by decide) h63, cf.keepJ cw (a := 60) (by decide) (by decide) j60]
  exact x
theorem CC.cf (x : CC s h) (cf : CFr A J h h') (cw : CW B M h) (h47 : ¬ A 47) (h2 : ¬ A (hR h 47 2)) : CC s h' := by
  have h100 := cw.c100
  have e6 : hR h' 47 2 = hR h 47 2 := (cf.2.2.2.2.2.2.2.2.2.1 (by omega)).resolve_left h47
  have hb := cw.bl.2.2.2.2.1
  obtain ⟨-, -, -, a4, -, -, -, a8, -, -, a11, -, -, -, -⟩ := cw.ap
  have x6 := cf.1.2.2.1 (hR h 47 2) hb
  have eI : hI h' (hR h 47 2) = hI h (hR h 47 2) := x6.2.2.1 (fun z => by
    rcases z with z | z | z | z
    · exact h2 z
    · exact a4 z.symm
    · exact a8 z.symm
    · exact a11 z.symm)
  unfold CC RC RKn RLv at x ⊢
  rw [cf.keep cw (a := 47) (by decide) (by decide) h47, e6, x6.2.1, eI]
  exact x
theorem ClS.keep (m : CSm h h') (x : ClS s B M h) : ClS s B M h' := by
  obtain ⟨x1, x2, x3, x4, x5, x6⟩ := x
  obtain ⟨m1, m2, m3, m4, m5, m6⟩ := m
  have hfar : ∀ r, (r = 48 ∨ r = 54 ∨ 100 ≤ r) → r < 67 ∨ 100 ≤ r := fun r z => by omega
  have h6 : hR h 50 6 < 67 ∨ 100 ≤ hR h 50 6 := by rcases x1.2.1.2.2.2.2.1.2.2.2.2.2 with q | q <;> omega
  have h2 : hR h 47 2 < 67 ∨ 100 ≤ hR h 47 2 := by rcases x1.2.1.2.2.2.2.1.2.2.2.2.1 with q | q <;> omega
  have e : ∀ a, a < 67 → hI h' a = hI h a := fun a ha => (m6 a (Or.inl ha)).1
  have eJ : ∀ a, a < 67 → hJ h' a = hJ h a := fun a ha => (m6 a (Or.inl ha)).2
  refine ⟨?_, ?_, ?_, ?_, ?_, ?_⟩
  · refine ⟨CS0_of (fun a _ => ⟨by rw [m1], by rw [m2]⟩) (fun a k _ _ => by rw [m3]) x1.1, ?_, ?_⟩
    · have := x1.2.1
      unfold DY at this ⊢
      rw [m1, m2, m3, m4]
      exact this
    · have := x1.2.2
      unfold Rm at this ⊢
      rw [m2, m3, m4, m5]
      exact this
  · have hk : hR h 2 2 ≤ 15 := by rcases x2.1 with q | q <;> omega
    obtain ⟨w1, w2, w3, w4, w5, w6, w7⟩ := x2
    unfold CB
    rw [m3, e 3 (by decide), e 2 (by decide), e 26 (by decide), e 28 (by decide)]
    exact ⟨w1, DrF.congr (fun j hj => e _ (by omega)) w2, NetF.congr (fun j hj => e _ (by omega)) w3, w4, w5, w6, w7⟩
  · unfold CP PLn SPn at x3 ⊢
    rw [e 42 (by decide), e 43 (by decide), e 44 (by decide)]
    exact x3
  · unfold CR RW at x4 ⊢
    rw [m2, m3, e 50 (by decide), eJ 50 (by decide), (m6 _ h6).1]
    exact x4
  · unfold CO OW at x5 ⊢
    rw [e 60 (by decide), e 63 (by decide), eJ 60 (by decide)]
    exact x5
  · unfold CC RC RKn RLv at x6 ⊢
    rw [m2, m3, e 47 (by decide), (m6 _ h2).1]
    exact x6
end Kp
/-- the first number of the rows that `once` needs -/
abbrev Big (s : SG) (h : AH) : Prop := ndN (zQ s) (zw s) (zn s) + 1 ≤ hL h (hR h 31 0) ∧ ndN (zQ s) (zw s) (zn s) + 1 ≤ hL h (hR h 31 3)
def ph (s : SG) (h : AH) : Nat := (if zL s = 0 then 0 else 1) + (if Big s h then 0 else 2)
/-- the next state, and what it costs -/
def Nx (s : SG) (B M : Nat) (h h2 : AH) : Prop := ∃ s' B' M' e, ClS s' B' M' h2 ∧ MoS s' h2 ∧ SOK s' ∧ B' ≤ B + 32768 * e + 6 ∧ M' ≤ M + 2 * e + 1 ∧ 3 * e + ph s' h2 ≤ ph s h + 1
theorem ph_le {s s' : SG} {h h' : AH} (hD : zD s' = zD s) (hL' : zL s' ≤ zL s) (m0 : hL h (hR h 31 0) ≤ hL h' (hR h' 31 0)) (m3 : hL h (hR h 31 3) ≤ hL h' (hR h' 31 3)) : ph s' h' ≤ ph s h := by
  have e : Big s h → Big s' h' := fun q => by
    unfold Big zQ zw zn at q ⊢
    rw [hD]
    omega
  have h1 : (if zL s' = 0 then 0 else 1) ≤ (if zL s = 0 then (0 : Nat) else 1) := by split <;> split <;> omega
  have h2 : (if Big s' h' then 0 else 2) ≤ (if Big s h then (0 : Nat) else 2) := by
    by_cases q : Big s h
    · rw [if_pos q, if_pos (e q)]
      exact Nat.le_refl _
    · rw [if_neg q]
      split <;> omega
  unfold ph
  omega

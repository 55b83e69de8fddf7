/-! ===== THE START: both objects are made ===== -/
def s00 : SG := (fun _ => 0, 0, d00, [], [], ([], 0), ([], 0), 0, -1, -1)
theorem tpb0 : TpB (fun _ => 0) := fun i _ => ⟨0, by decide, show (0 : Int32) = bI 0 by decide⟩
theorem sok00 : SOK s00 := ⟨⟨Nat.zero_le _, fun x hx => absurd hx (Nat.not_lt_zero _)⟩, by decide, fun z => absurd z (Nat.lt_irrefl 0), tpb0, by decide⟩
set_option maxHeartbeats 4000000 in
set_option maxRecDepth 200000 in
theorem cs00 {h : AH} (g2 : Tab tq2 h) (gF : Tab TF h) : CS0 h := by
  simp only [tq2, Tab, tE, and_true] at g2
  simp only [TF, tq3, tq4, tq15, tq26, tq27, tq31, tq36, tq42, tq47, tq50, tq55, tq60, tq64, List.nil_append, List.cons_append, Tab, tE, and_true] at gF
  simp only [CS0, g2, gF, and_self]
set_option maxHeartbeats 4000000 in
set_option maxRecDepth 200000 in
theorem ms00 {h : AH} (gM : Tab tq67 h) (a99 : hT h 99 = 103) (b99 : hL h 99 = 1) : MS0 h := by
  simp only [tq67, Tab, tE, and_true] at gM
  simp only [MS0, gM, a99, b99, and_self]
set_option maxHeartbeats 4000000 in
set_option maxRecDepth 200000 in
theorem cl00 {h : AH} (g2 : Tab tq2 h) (gF : Tab TF h) (n : hN h = 100) (sl : hS h = 1330728) : ClS s00 1330728 100 h := by
  have cs := cs00 g2 gF
  simp only [tq2, Tab, tE, and_true] at g2
  simp only [TF, tq3, tq4, tq15, tq26, tq27, tq31, tq36, tq42, tq47, tq50, tq55, tq60, tq64, List.nil_append, List.cons_append, Tab, tE, and_true] at gF
  have r0 : hR h 31 0 = 32 := by simp only [gF]
  have r1 : hR h 31 1 = 33 := by simp only [gF]
  have r2 : hR h 31 2 = 34 := by simp only [gF]
  have r3 : hR h 31 3 = 35 := by simp only [gF]
  have r4 : hR h 47 2 = 48 := by simp only [gF]
  have r5 : hR h 50 6 = 54 := by simp only [gF]
  have t0 : hT h 32 = 100 := by simp only [gF]
  have t1 : hT h 33 = 100 := by simp only [gF]
  have t2 : hT h 34 = 100 := by simp only [gF]
  have t3 : hT h 35 = 103 := by simp only [gF]
  have t4 : hT h 48 = 101 := by simp only [gF]
  have t5 : hT h 54 = 100 := by simp only [gF]
  have l0 : hL h 32 = 0 := by simp only [gF]
  have l1 : hL h 33 = 0 := by simp only [gF]
  have l2 : hL h 34 = 0 := by simp only [gF]
  have l3 : hL h 35 = 0 := by simp only [gF]
  have l4 : hL h 48 = 0 := by simp only [gF]
  have l5 : hL h 54 = 0 := by simp only [gF]
  have r22 : hR h 2 2 = 4 := by simp only [g2]
  have r23 : hR h 2 3 = 15 := by simp only [g2]
  have i2 : hI h 2 = fun _ => 0 := by simp only [g2]
  have i3 : hI h 3 = fun _ => 0 := by simp only [gF]
  have i4 : hI h 4 = fun _ => 0 := by simp only [gF]
  have i26 : hI h 26 = fun _ => 0 := by simp only [gF]
  have i50 : hI h 50 = fun _ => 0 := by simp only [gF]
  have j50 : hJ h 50 = fun _ => 0 := by simp only [gF]
  have i60 : hI h 60 = fun _ => 0 := by simp only [gF]
  have j60 : hJ h 60 = fun _ => 0 := by simp only [gF]
  have p3 : hI h 42 3 = 0 := by simp only [gF]
  have p7 : hI h 42 7 = 0 := by simp only [gF]
  have p4 : hI h 42 4 = -1 := by simp only [gF]
  have p5 : hI h 42 5 = -1 := by simp only [gF]
  have c6 : hI h 47 6 = -1 := by simp only [gF]
  have w0 : hI h 28 0 = nI 13172 := by simp only [gF]
  have w1 : hI h 28 1 = nI 256910 := by simp only [gF]
  have w2 : hI h 28 2 = nI 411 := by simp only [gF]
  have w3 : hI h 28 3 = nI 1903978 := by simp only [gF]
  have w4 : hI h 28 4 = nI 459791 := by simp only [gF]
  have w5 : hI h 28 5 = nI 453959 := by simp only [gF]
  have w6 : hI h 28 6 = nI 257 := by simp only [gF]
  clear g2 gF
  have fF : (fun j => hI h (hR h 2 2 + j)) 0 = fun _ => 0 := by
    show hI h (hR h 2 2 + 0) = _
    rw [r22]
    exact i4
  have z0 : (0 : Int32) = nI 0 := nI_0.symm
  refine ⟨⟨cs, ?_, ?_⟩, ⟨Or.inl ⟨r22, r23⟩, ⟨Nat.zero_le _, (congrFun fF 0).trans z0, (congrFun fF 2).trans z0, ⟨0, (congrFun fF 1).trans z0, by decide, fun k hk => absurd hk (Nat.not_lt_zero _)⟩, fun k hk => absurd hk (Nat.not_lt_zero _)⟩, ⟨(congrFun fF 3).trans z0, fun k hk => absurd hk (Nat.not_lt_zero _)⟩, i3, (congrFun i2 1).trans z0, congrFun i26 3, fun j hj => ?_⟩, ⟨⟨p3.trans z0, Nat.zero_le _, fun j v q => (by cases q), fun v q => absurd q List.not_mem_nil⟩, ⟨p7.trans z0, Nat.zero_le _, fun j v q => (by cases q)⟩, p4, p5⟩, ⟨(congrFun i50 7).trans z0, (congrFun j50 8).trans rfl, Nat.zero_le _, Nat.zero_le _, fun j v q => (by cases q)⟩, ⟨(congrFun i60 6).trans z0, (congrFun j60 7).trans rfl, Nat.zero_le _, fun j v q => (by cases q)⟩, Or.inl c6⟩
  · unfold DY
    rw [n, r0, r1, r2, r3, r4, r5, t0, t1, t2, t3, t4, t5, l0, l1, l2, l3, l4, l5]
    decide
  · unfold Rm
    rw [n, sl]
    exact ⟨by omega, by omega⟩
  · match j, hj with
    | 0, _ => exact w0
    | 1, _ => exact w1
    | 2, _ => exact w2
    | 3, _ => exact w3
    | 4, _ => exact w4
    | 5, _ => exact w5
    | 6, _ => exact w6
set_option maxHeartbeats 4000000 in
set_option maxRecDepth 200000 in
theorem mo00 {h : AH} (gM : Tab tq67 h) (a99 : hT h 99 = 103) (b99 : hL h 99 = 1) : MoS s00 h := by
  have ms := ms00 gM a99 b99
  simp only [tq67, Tab, tE, and_true] at gM
  have i67 : hI h 67 = fun _ => 0 := by simp only [gM]
  have j67 : hJ h 67 = fun _ => 0 := by simp only [gM]
  have i68 : hI h 68 = fun _ => 0 := by simp only [gM]
  have i72 : hI h 72 = fun _ => 0 := by simp only [gM]
  have i73 : hI h 73 = fun _ => 0 := by simp only [gM]
  clear gM
  have z0 : (0 : Int32) = nI 0 := nI_0.symm
  exact ⟨ms, ⟨⟨(congrFun i72 0).trans z0, (congrFun i73 0).trans z0, fun x hx => absurd hx (Nat.not_lt_zero _)⟩, Nat.zero_le _, fun k hk => absurd hk (Nat.not_lt_zero _)⟩, i68, (congrFun i67 2).trans z0, congrFun i67 15, ⟨(congrFun i67 49).trans z0, fun j v q => (by cases q), Nat.zero_le _, fun v q => absurd q List.not_mem_nil⟩, ⟨(congrFun i67 56).trans z0, fun j v q => (by cases q), Nat.zero_le _⟩, ⟨(congrFun i67 31).trans z0, (congrFun j67 32).trans rfl, fun j v q => (by cases q), Nat.zero_le _⟩, ⟨(congrFun i67 40).trans z0, (congrFun j67 41).trans rfl, fun j v q => (by cases q), Nat.zero_le _⟩, Or.inl ⟨congrFun i67 51, rfl, rfl⟩⟩
theorem init_ok {L : Nat} {xs : Nat → Int32} {Q : Option Value → AH → Prop} (k : ∀ h, ClS s00 1330728 100 h → MoS s00 h → hT h 1 = 110 → hL h 1 = L → hI h 1 = xs → WP 219 23 [.ref 1, .ref 2, .ref 67, .ref 99, .int 0, .retAddr 0, .retAddr 0] [] h Q) : WP 219 0 [.ref 1, .retAddr 0, .retAddr 0, .retAddr 0, .retAddr 0, .retAddr 0, .retAddr 0] [] (h00 L xs) Q := by
  have e0 : hN (h00 L xs) = 2 := rfl
  have e1 : hT (h00 L xs) 1 = 110 := rfl
  have e2 : hL (h00 L xs) 1 = L := rfl
  have e3 : hI (h00 L xs) 1 = xs := rfl
  have e4 : hS (h00 L xs) = 0 := rfl
  generalize h00 L xs = h0 at e0 e1 e2 e3 e4
  simp only [w219_a, CN3, e0, Nat.reduceAdd, Nat.reduceEqDiff, Nat.reduceLeDiff, ↓reduceIte, and_true, true_and, and_false, false_and, and_self, if_true, if_false, ne_eq, not_false_eq_true]
  refine n104_2 (by rw [hN_nw, e0]) (by rw [hT_nw, e0, if_pos rfl]) (by rw [hI_nw, e0, if_pos rfl]) (by rw [hR_nw, e0, if_pos rfl]) fun h1 N1 S1 F1 T2 T1 => ?_
  simp only [w219_a, zz, CN3, N1, Nat.reduceAdd, Nat.reduceEqDiff, Nat.reduceLeDiff, ↓reduceIte, and_true, true_and, and_false, false_and, and_self, if_true, if_false, ne_eq, not_false_eq_true]
  refine n143_67 (by rw [hN_nw, N1]) (by rw [hT_nw, N1, if_pos rfl]) (by rw [hI_nw, N1, if_pos rfl]) (by rw [hJ_nw, N1, if_pos rfl]) fun h2 N2 S2 F2 T3 => ?_
  simp only [w219_a, zz, CN, CN2, N2, Nat.reduceAdd, Nat.reduceEqDiff, Nat.reduceLeDiff, ↓reduceIte, and_true, true_and, and_false, false_and, and_self, if_true, if_false, ne_eq, not_false_eq_true]
  obtain ⟨h3, g3⟩ : ∃ h3, h3 = nw h2 103 1 1 := ⟨_, rfl⟩
  rw [← g3]
  have F3 : ∀ b, b < 99 → Sm h2 h3 b := fun b hb => by
    rw [g3]
    exact Sm.rf.nw (by omega)
  have Z : ∀ b, b < 67 → Sm h1 h3 b := fun b hb => ((Sm.rf.nw (t := 13) (n := 0) (sl := 57) (show b ≠ hN h1 by omega)).tr (F2 b hb)).tr (F3 b (by omega))
  have Z1 : Sm h0 h3 1 := ((Sm.rf.nw (t := 12) (n := 0) (sl := 11) (show 1 ≠ hN h0 by omega)).tr (F1 1 (by decide))).tr (Z 1 (by decide))
  have hn3 : hN h3 = 100 := by rw [g3, hN_nw, N2]
  have hs3 : hS h3 = 1330728 := by rw [g3, hS_nw, S2, hS_nw, S1, hS_nw, e4]
  have a99 : hT h3 99 = 103 := by rw [g3, hT_nw, N2, if_pos rfl]
  have b99 : hL h3 99 = 1 := by rw [g3, hL_nw, N2, if_pos rfl]
  have g2 : Tab tq2 h3 := Tab.mv (f := fun a => decide (a < 67)) (fun a ha => Z a (of_decide_eq_true ha)) (by decide +kernel) T2
  have gF : Tab TF h3 := Tab.mv (f := fun a => decide (a < 67)) (fun a ha => Z a (of_decide_eq_true ha)) (by decide +kernel) T1
  have gM : Tab tq67 h3 := Tab.mv (f := fun a => decide (a < 99)) (fun a ha => F3 a (of_decide_eq_true ha)) (by decide +kernel) T3
  exact k h3 (cl00 g2 gF hn3 hs3) (mo00 gM a99 b99) (Z1.1.trans e1) (Z1.2.1.trans e2) (Z1.2.2.1.trans e3)

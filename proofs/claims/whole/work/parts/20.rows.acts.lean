/-! 0: FewBowls$Acts.<init>()V; loop heads [] -/
set_option maxRecDepth 10000 in
theorem w0 : (∀ (x0 : Nat) (st : List Value) (h : AH) (Q : Option Value → AH → Prop), WP 0 0 [.ref x0] (st) h Q ↔ WP 0 1 [.ref x0] (.ref x0 :: st) h Q) ∧
  (∀ (x0 : Nat) (y0 : Nat) (h : AH) (Q : Option Value → AH → Prop) (h0 : y0 ≠ 0), WP 0 1 [.ref x0] ([.ref y0]) h Q ↔ WP 0 4 [.ref x0] ([]) h Q) ∧
  (∀ (x0 : Nat) (st : List Value) (h : AH) (Q : Option Value → AH → Prop), WP 0 4 [.ref x0] (st) h Q ↔ WP 0 5 [.ref x0] (.ref x0 :: st) h Q) ∧
  (∀ (x0 : Nat) (st : List Value) (h : AH) (Q : Option Value → AH → Prop), WP 0 5 [.ref x0] (st) h Q ↔ WP 0 7 [.ref x0] (.int (112) :: st) h Q) ∧
  (∀ (x0 : Nat) (y0 : Int32) (st : List Value) (h : AH) (Q : Option Value → AH → Prop) (h0 : 0 ≤ y0) (h1 : y0.toNatClampNeg ≤ 1048576), WP 0 7 [.ref x0] (.int y0 :: st) h Q ↔ WP 0 9 [.ref x0] (.ref (hN h) :: st) (nw h 100 y0.toNatClampNeg y0.toNatClampNeg) Q) ∧
  (∀ (x0 : Nat) (y0 : Nat) (y1 : Nat) (st : List Value) (h : AH) (Q : Option Value → AH → Prop) (ht : hT h y1 = 1), WP 0 9 [.ref x0] (.ref y0 :: .ref y1 :: st) h Q ↔ WP 0 12 [.ref x0] (st) (sR h y1 2 y0) Q) ∧
  (∀ (x0 : Nat) (st : List Value) (h : AH) (Q : Option Value → AH → Prop), WP 0 12 [.ref x0] (st) h Q ↔ WP 0 13 [.ref x0] (.ref x0 :: st) h Q) ∧
  (∀ (x0 : Nat) (st : List Value) (h : AH) (Q : Option Value → AH → Prop), WP 0 13 [.ref x0] (st) h Q ↔ WP 0 15 [.ref x0] (.int (112) :: st) h Q) ∧
  (∀ (x0 : Nat) (y0 : Int32) (st : List Value) (h : AH) (Q : Option Value → AH → Prop) (h0 : 0 ≤ y0) (h1 : y0.toNatClampNeg ≤ 1048576), WP 0 15 [.ref x0] (.int y0 :: st) h Q ↔ WP 0 17 [.ref x0] (.ref (hN h) :: st) (nw h 100 y0.toNatClampNeg y0.toNatClampNeg) Q) ∧
  (∀ (x0 : Nat) (y0 : Nat) (y1 : Nat) (st : List Value) (h : AH) (Q : Option Value → AH → Prop) (ht : hT h y1 = 1), WP 0 17 [.ref x0] (.ref y0 :: .ref y1 :: st) h Q ↔ WP 0 20 [.ref x0] (st) (sR h y1 3 y0) Q) ∧
  (∀ (x0 : Nat) (st : List Value) (h : AH) (Q : Option Value → AH → Prop), WP 0 20 [.ref x0] (st) h Q ↔ WP 0 21 [.ref x0] (.ref x0 :: st) h Q) ∧
  (∀ (x0 : Nat) (st : List Value) (h : AH) (Q : Option Value → AH → Prop), WP 0 21 [.ref x0] (st) h Q ↔ WP 0 23 [.ref x0] (.int (112) :: st) h Q) ∧
  (∀ (x0 : Nat) (y0 : Int32) (st : List Value) (h : AH) (Q : Option Value → AH → Prop) (h0 : 0 ≤ y0) (h1 : y0.toNatClampNeg ≤ 1048576), WP 0 23 [.ref x0] (.int y0 :: st) h Q ↔ WP 0 25 [.ref x0] (.ref (hN h) :: st) (nw h 100 y0.toNatClampNeg y0.toNatClampNeg) Q) ∧
  (∀ (x0 : Nat) (y0 : Nat) (y1 : Nat) (st : List Value) (h : AH) (Q : Option Value → AH → Prop) (ht : hT h y1 = 1), WP 0 25 [.ref x0] (.ref y0 :: .ref y1 :: st) h Q ↔ WP 0 28 [.ref x0] (st) (sR h y1 4 y0) Q) ∧
  (∀ (x0 : Nat) (st : List Value) (h : AH) (Q : Option Value → AH → Prop), WP 0 28 [.ref x0] (st) h Q ↔ WP 0 29 [.ref x0] (.ref x0 :: st) h Q) ∧
  (∀ (x0 : Nat) (st : List Value) (h : AH) (Q : Option Value → AH → Prop), WP 0 29 [.ref x0] (st) h Q ↔ WP 0 31 [.ref x0] (.int (112) :: st) h Q) ∧
  (∀ (x0 : Nat) (y0 : Int32) (st : List Value) (h : AH) (Q : Option Value → AH → Prop) (h0 : 0 ≤ y0) (h1 : y0.toNatClampNeg ≤ 1048576), WP 0 31 [.ref x0] (.int y0 :: st) h Q ↔ WP 0 33 [.ref x0] (.ref (hN h) :: st) (nw h 100 y0.toNatClampNeg y0.toNatClampNeg) Q) ∧
  (∀ (x0 : Nat) (y0 : Nat) (y1 : Nat) (st : List Value) (h : AH) (Q : Option Value → AH → Prop) (ht : hT h y1 = 1), WP 0 33 [.ref x0] (.ref y0 :: .ref y1 :: st) h Q ↔ WP 0 36 [.ref x0] (st) (sR h y1 5 y0) Q) ∧
  (∀ (x0 : Nat) (st : List Value) (h : AH) (Q : Option Value → AH → Prop), WP 0 36 [.ref x0] (st) h Q ↔ WP 0 37 [.ref x0] (.ref x0 :: st) h Q) ∧
  (∀ (x0 : Nat) (st : List Value) (h : AH) (Q : Option Value → AH → Prop), WP 0 37 [.ref x0] (st) h Q ↔ WP 0 39 [.ref x0] (.int (112) :: st) h Q) ∧
  (∀ (x0 : Nat) (y0 : Int32) (st : List Value) (h : AH) (Q : Option Value → AH → Prop) (h0 : 0 ≤ y0) (h1 : y0.toNatClampNeg ≤ 1048576), WP 0 39 [.ref x0] (.int y0 :: st) h Q ↔ WP 0 41 [.ref x0] (.ref (hN h) :: st) (nw h 100 y0.toNatClampNeg y0.toNatClampNeg) Q) ∧
  (∀ (x0 : Nat) (y0 : Nat) (y1 : Nat) (st : List Value) (h : AH) (Q : Option Value → AH → Prop) (ht : hT h y1 = 1), WP 0 41 [.ref x0] (.ref y0 :: .ref y1 :: st) h Q ↔ WP 0 44 [.ref x0] (st) (sR h y1 6 y0) Q) ∧
  (∀ (x0 : Nat) (h : AH) (Q : Option Value → AH → Prop), WP 0 44 [.ref x0] ([]) h Q ↔ Q none h) :=
  ⟨fun _ _ _ _ => WP_s (show ct 0 0 = some (.aload_n 0, 0, []) by decide +kernel) rfl,
  fun _ _ _ _ h0 => WH_obj (show ct 0 1 = some (.invokespecial 3, 1, [350, 124, 125]) by decide +kernel) h0 (Nat.le_of_ble_eq_true rfl),
  fun _ _ _ _ => WP_s (show ct 0 4 = some (.aload_n 0, 0, []) by decide +kernel) rfl,
  fun _ _ _ _ => WP_s (show ct 0 5 = some (.bipush 112, 0, []) by decide +kernel) rfl,
  fun _ _ _ _ _ h0 h1 => WH_newa (show ct 0 7 = some (.newarray .int, 1, [100, 209]) by decide +kernel) (by decide) h0 h1,
  fun _ _ _ _ _ _ ht => WH_pR (show ct 0 9 = some (.putfield 11, 1, [0, 2, 2, 1, 356]) by decide +kernel) ht,
  fun _ _ _ _ => WP_s (show ct 0 12 = some (.aload_n 0, 0, []) by decide +kernel) rfl,
  fun _ _ _ _ => WP_s (show ct 0 13 = some (.bipush 112, 0, []) by decide +kernel) rfl,
  fun _ _ _ _ _ h0 h1 => WH_newa (show ct 0 15 = some (.newarray .int, 1, [100, 209]) by decide +kernel) (by decide) h0 h1,
  fun _ _ _ _ _ _ ht => WH_pR (show ct 0 17 = some (.putfield 15, 1, [0, 3, 2, 1, 358]) by decide +kernel) ht,
  fun _ _ _ _ => WP_s (show ct 0 20 = some (.aload_n 0, 0, []) by decide +kernel) rfl,
  fun _ _ _ _ => WP_s (show ct 0 21 = some (.bipush 112, 0, []) by decide +kernel) rfl,
  fun _ _ _ _ _ h0 h1 => WH_newa (show ct 0 23 = some (.newarray .int, 1, [100, 209]) by decide +kernel) (by decide) h0 h1,
  fun _ _ _ _ _ _ ht => WH_pR (show ct 0 25 = some (.putfield 18, 1, [0, 4, 2, 1, 361]) by decide +kernel) ht,
  fun _ _ _ _ => WP_s (show ct 0 28 = some (.aload_n 0, 0, []) by decide +kernel) rfl,
  fun _ _ _ _ => WP_s (show ct 0 29 = some (.bipush 112, 0, []) by decide +kernel) rfl,
  fun _ _ _ _ _ h0 h1 => WH_newa (show ct 0 31 = some (.newarray .int, 1, [100, 209]) by decide +kernel) (by decide) h0 h1,
  fun _ _ _ _ _ _ ht => WH_pR (show ct 0 33 = some (.putfield 21, 1, [0, 5, 2, 1, 362]) by decide +kernel) ht,
  fun _ _ _ _ => WP_s (show ct 0 36 = some (.aload_n 0, 0, []) by decide +kernel) rfl,
  fun _ _ _ _ => WP_s (show ct 0 37 = some (.bipush 112, 0, []) by decide +kernel) rfl,
  fun _ _ _ _ _ h0 h1 => WH_newa (show ct 0 39 = some (.newarray .int, 1, [100, 209]) by decide +kernel) (by decide) h0 h1,
  fun _ _ _ _ _ _ ht => WH_pR (show ct 0 41 = some (.putfield 24, 1, [0, 6, 2, 1, 363]) by decide +kernel) ht,
  fun _ _ _ => WR_v (show ct 0 44 = some (.return_, 2, [0]) by decide +kernel)⟩
/-! 1: FewBowls$Acts.numberOfMadeIn(II)I; loop heads [] -/
set_option maxRecDepth 10000 in
theorem w1 : (∀ (x0 : Int32) (x1 : Int32) (st : List Value) (h : AH) (Q : Option Value → AH → Prop), WP 1 0 [.int x0, .int x1] (st) h Q ↔ WP 1 2 [.int x0, .int x1] (.int (100) :: st) h Q) ∧
  (∀ (x0 : Int32) (x1 : Int32) (st : List Value) (h : AH) (Q : Option Value → AH → Prop), WP 1 2 [.int x0, .int x1] (st) h Q ↔ WP 1 4 [.int x0, .int x1] (.int (20) :: st) h Q) ∧
  (∀ (x0 : Int32) (x1 : Int32) (st : List Value) (h : AH) (Q : Option Value → AH → Prop), WP 1 4 [.int x0, .int x1] (st) h Q ↔ WP 1 5 [.int x0, .int x1] (.int x0 :: st) h Q) ∧
  (∀ (x0 : Int32) (x1 : Int32) (y0 : Int32) (y1 : Int32) (st : List Value) (h : AH) (Q : Option Value → AH → Prop), WP 1 5 [.int x0, .int x1] (.int y0 :: .int y1 :: st) h Q ↔ WP 1 6 [.int x0, .int x1] (.int (y1 * y0) :: st) h Q) ∧
  (∀ (x0 : Int32) (x1 : Int32) (y0 : Int32) (y1 : Int32) (st : List Value) (h : AH) (Q : Option Value → AH → Prop), WP 1 6 [.int x0, .int x1] (.int y0 :: .int y1 :: st) h Q ↔ WP 1 7 [.int x0, .int x1] (.int (y1 + y0) :: st) h Q) ∧
  (∀ (x0 : Int32) (x1 : Int32) (st : List Value) (h : AH) (Q : Option Value → AH → Prop), WP 1 7 [.int x0, .int x1] (st) h Q ↔ WP 1 8 [.int x0, .int x1] (.int x1 :: st) h Q) ∧
  (∀ (x0 : Int32) (x1 : Int32) (y0 : Int32) (y1 : Int32) (st : List Value) (h : AH) (Q : Option Value → AH → Prop), WP 1 8 [.int x0, .int x1] (.int y0 :: .int y1 :: st) h Q ↔ WP 1 9 [.int x0, .int x1] (.int (y1 + y0) :: st) h Q) ∧
  (∀ (x0 : Int32) (x1 : Int32) (y0 : Int32) (h : AH) (Q : Option Value → AH → Prop), WP 1 9 [.int x0, .int x1] ([.int y0]) h Q ↔ Q (some (.int y0)) h) :=
  ⟨fun _ _ _ _ _ => WP_s (show ct 1 0 = some (.bipush 100, 0, []) by decide +kernel) rfl,
  fun _ _ _ _ _ => WP_s (show ct 1 2 = some (.bipush 20, 0, []) by decide +kernel) rfl,
  fun _ _ _ _ _ => WP_s (show ct 1 4 = some (.iload_n 0, 0, []) by decide +kernel) rfl,
  fun _ _ _ _ _ _ _ => WP_s (show ct 1 5 = some (.imul, 0, []) by decide +kernel) rfl,
  fun _ _ _ _ _ _ _ => WP_s (show ct 1 6 = some (.iadd, 0, []) by decide +kernel) rfl,
  fun _ _ _ _ _ => WP_s (show ct 1 7 = some (.iload_n 1, 0, []) by decide +kernel) rfl,
  fun _ _ _ _ _ _ _ => WP_s (show ct 1 8 = some (.iadd, 0, []) by decide +kernel) rfl,
  fun _ _ _ _ _ => WR_i (show ct 1 9 = some (.ireturn, 2, [0]) by decide +kernel)⟩
/-! 2: FewBowls$Acts.build(LFewBowls$Net;II)V; loop heads [16, 54, 107, 128] -/
theorem w2_16 : ∀ (x0 : Nat) (x1 : Nat) (x2 : Int32) (x3 : Int32) (x4 : Int32) (st : List Value) (h : AH) (Q : Option Value → AH → Prop), WP 2 16 [.ref x0, .ref x1, .int x2, .int x3, .int x4, .retAddr 0, .retAddr 0] (st) h Q ↔ WP 2 18 [.ref x0, .ref x1, .int x2, .int x3, .int x4, .retAddr 0, .retAddr 0] (.int x4 :: st) h Q := fun _ _ _ _ _ _ _ _ => WP_s (show ct 2 16 = some (.iload 4, 0, []) by decide +kernel) rfl
theorem w2_54 : ∀ (x0 : Nat) (x1 : Nat) (x2 : Int32) (x3 : Int32) (x4 : Int32) (st : List Value) (h : AH) (Q : Option Value → AH → Prop), WP 2 54 [.ref x0, .ref x1, .int x2, .int x3, .int x4, .retAddr 0, .retAddr 0] (st) h Q ↔ WP 2 56 [.ref x0, .ref x1, .int x2, .int x3, .int x4, .retAddr 0, .retAddr 0] (.int x4 :: st) h Q := fun _ _ _ _ _ _ _ _ => WP_s (show ct 2 54 = some (.iload 4, 0, []) by decide +kernel) rfl
theorem w2_107 : ∀ (x0 : Nat) (x1 : Nat) (x2 : Int32) (x3 : Int32) (x4 : Int32) (x5 : Value) (x6 : Value) (st : List Value) (h : AH) (Q : Option Value → AH → Prop), WP 2 107 [.ref x0, .ref x1, .int x2, .int x3, .int x4, x5, x6] (st) h Q ↔ WP 2 109 [.ref x0, .ref x1, .int x2, .int x3, .int x4, x5, x6] (.int x4 :: st) h Q := fun _ _ _ _ _ _ _ _ _ _ => WP_s (show ct 2 107 = some (.iload 4, 0, []) by decide +kernel) rfl
theorem w2_128 : ∀ (x0 : Nat) (x1 : Nat) (x2 : Int32) (x3 : Int32) (x4 : Int32) (x5 : Int32) (x6 : Int32) (st : List Value) (h : AH) (Q : Option Value → AH → Prop), WP 2 128 [.ref x0, .ref x1, .int x2, .int x3, .int x4, .int x5, .int x6] (st) h Q ↔ WP 2 130 [.ref x0, .ref x1, .int x2, .int x3, .int x4, .int x5, .int x6] (.int x6 :: st) h Q := fun _ _ _ _ _ _ _ _ _ _ => WP_s (show ct 2 128 = some (.iload 6, 0, []) by decide +kernel) rfl
set_option maxRecDepth 10000 in
theorem w2_a : (∀ (x0 : Nat) (x1 : Nat) (x2 : Int32) (x3 : Int32) (st : List Value) (h : AH) (Q : Option Value → AH → Prop), WP 2 0 [.ref x0, .ref x1, .int x2, .int x3, .retAddr 0, .retAddr 0, .retAddr 0] (st) h Q ↔ WP 2 1 [.ref x0, .ref x1, .int x2, .int x3, .retAddr 0, .retAddr 0, .retAddr 0] (.ref x0 :: st) h Q) ∧
  (∀ (x0 : Nat) (x1 : Nat) (x2 : Int32) (x3 : Int32) (st : List Value) (h : AH) (Q : Option Value → AH → Prop), WP 2 1 [.ref x0, .ref x1, .int x2, .int x3, .retAddr 0, .retAddr 0, .retAddr 0] (st) h Q ↔ WP 2 2 [.ref x0, .ref x1, .int x2, .int x3, .retAddr 0, .retAddr 0, .retAddr 0] (.int (0) :: st) h Q) ∧
  (∀ (x0 : Nat) (x1 : Nat) (x2 : Int32) (x3 : Int32) (y0 : Int32) (y1 : Nat) (st : List Value) (h : AH) (Q : Option Value → AH → Prop) (ht : hT h y1 = 1), WP 2 2 [.ref x0, .ref x1, .int x2, .int x3, .retAddr 0, .retAddr 0, .retAddr 0] (.int y0 :: .ref y1 :: st) h Q ↔ WP 2 5 [.ref x0, .ref x1, .int x2, .int x3, .retAddr 0, .retAddr 0, .retAddr 0] (st) (sI h y1 0 y0) Q) ∧
  (∀ (x0 : Nat) (x1 : Nat) (x2 : Int32) (x3 : Int32) (st : List Value) (h : AH) (Q : Option Value → AH → Prop), WP 2 5 [.ref x0, .ref x1, .int x2, .int x3, .retAddr 0, .retAddr 0, .retAddr 0] (st) h Q ↔ WP 2 6 [.ref x0, .ref x1, .int x2, .int x3, .retAddr 0, .retAddr 0, .retAddr 0] (.ref x0 :: st) h Q) ∧
  (∀ (x0 : Nat) (x1 : Nat) (x2 : Int32) (x3 : Int32) (st : List Value) (h : AH) (Q : Option Value → AH → Prop), WP 2 6 [.ref x0, .ref x1, .int x2, .int x3, .retAddr 0, .retAddr 0, .retAddr 0] (st) h Q ↔ WP 2 7 [.ref x0, .ref x1, .int x2, .int x3, .retAddr 0, .retAddr 0, .retAddr 0] (.ref x1 :: st) h Q) ∧
  (∀ (x0 : Nat) (x1 : Nat) (x2 : Int32) (x3 : Int32) (y1 : Nat) (y0 : Nat) (h : AH) (Q : Option Value → AH → Prop) (ht : hT h y0 = 4), WP 2 7 [.ref x0, .ref x1, .int x2, .int x3, .retAddr 0, .retAddr 0, .retAddr 0] ([.ref y0, .ref y1]) h Q ↔ WPM 25 [.ref y0] h (fun r h' => WP 2 10 [.ref x0, .ref x1, .int x2, .int x3, .retAddr 0, .retAddr 0, .retAddr 0] (r.toList ++ [.ref y1]) h' Q)) ∧
  (∀ (x0 : Nat) (x1 : Nat) (x2 : Int32) (x3 : Int32) (y0 : Int32) (y1 : Nat) (st : List Value) (h : AH) (Q : Option Value → AH → Prop) (ht : hT h y1 = 1), WP 2 10 [.ref x0, .ref x1, .int x2, .int x3, .retAddr 0, .retAddr 0, .retAddr 0] (.int y0 :: .ref y1 :: st) h Q ↔ WP 2 13 [.ref x0, .ref x1, .int x2, .int x3, .retAddr 0, .retAddr 0, .retAddr 0] (st) (sI h y1 1 y0) Q) ∧
  (∀ (x0 : Nat) (x1 : Nat) (x2 : Int32) (x3 : Int32) (st : List Value) (h : AH) (Q : Option Value → AH → Prop), WP 2 13 [.ref x0, .ref x1, .int x2, .int x3, .retAddr 0, .retAddr 0, .retAddr 0] (st) h Q ↔ WP 2 14 [.ref x0, .ref x1, .int x2, .int x3, .retAddr 0, .retAddr 0, .retAddr 0] (.int (0) :: st) h Q) ∧
  (∀ (x0 : Nat) (x1 : Nat) (x2 : Int32) (x3 : Int32) (y0 : Int32) (st : List Value) (h : AH) (Q : Option Value → AH → Prop), WP 2 14 [.ref x0, .ref x1, .int x2, .int x3, .retAddr 0, .retAddr 0, .retAddr 0] (.int y0 :: st) h Q ↔ WP 2 16 [.ref x0, .ref x1, .int x2, .int x3, .int y0, .retAddr 0, .retAddr 0] (st) h Q) ∧
  (∀ (x0 : Nat) (x1 : Nat) (x2 : Int32) (x3 : Int32) (x4 : Int32) (st : List Value) (h : AH) (Q : Option Value → AH → Prop), WP 2 18 [.ref x0, .ref x1, .int x2, .int x3, .int x4, .retAddr 0, .retAddr 0] (st) h Q ↔ WP 2 19 [.ref x0, .ref x1, .int x2, .int x3, .int x4, .retAddr 0, .retAddr 0] (.ref x1 :: st) h Q) ∧
  (∀ (x0 : Nat) (x1 : Nat) (x2 : Int32) (x3 : Int32) (x4 : Int32) (y0 : Nat) (st : List Value) (h : AH) (Q : Option Value → AH → Prop) (ht : hT h y0 = 4), WP 2 19 [.ref x0, .ref x1, .int x2, .int x3, .int x4, .retAddr 0, .retAddr 0] (.ref y0 :: st) h Q ↔ WP 2 22 [.ref x0, .ref x1, .int x2, .int x3, .int x4, .retAddr 0, .retAddr 0] (.int (hI h y0 0) :: st) h Q) ∧
  (∀ (x0 : Nat) (x1 : Nat) (x2 : Int32) (x3 : Int32) (x4 : Int32) (y0 : Int32) (y1 : Int32) (st : List Value) (h : AH) (Q : Option Value → AH → Prop), WP 2 22 [.ref x0, .ref x1, .int x2, .int x3, .int x4, .retAddr 0, .retAddr 0] (.int y0 :: .int y1 :: st) h Q ↔ ((y0 ≤ y1 → WP 2 51 [.ref x0, .ref x1, .int x2, .int x3, .int x4, .retAddr 0, .retAddr 0] (st) h Q) ∧ (¬ y0 ≤ y1 → WP 2 25 [.ref x0, .ref x1, .int x2, .int x3, .int x4, .retAddr 0, .retAddr 0] (st) h Q))) ∧
  (∀ (x0 : Nat) (x1 : Nat) (x2 : Int32) (x3 : Int32) (x4 : Int32) (st : List Value) (h : AH) (Q : Option Value → AH → Prop), WP 2 25 [.ref x0, .ref x1, .int x2, .int x3, .int x4, .retAddr 0, .retAddr 0] (st) h Q ↔ WP 2 26 [.ref x0, .ref x1, .int x2, .int x3, .int x4, .retAddr 0, .retAddr 0] (.ref x0 :: st) h Q) ∧
  (∀ (x0 : Nat) (x1 : Nat) (x2 : Int32) (x3 : Int32) (x4 : Int32) (st : List Value) (h : AH) (Q : Option Value → AH → Prop), WP 2 26 [.ref x0, .ref x1, .int x2, .int x3, .int x4, .retAddr 0, .retAddr 0] (st) h Q ↔ WP 2 28 [.ref x0, .ref x1, .int x2, .int x3, .int x4, .retAddr 0, .retAddr 0] (.int x4 :: st) h Q) ∧
  (∀ (x0 : Nat) (x1 : Nat) (x2 : Int32) (x3 : Int32) (x4 : Int32) (st : List Value) (h : AH) (Q : Option Value → AH → Prop), WP 2 28 [.ref x0, .ref x1, .int x2, .int x3, .int x4, .retAddr 0, .retAddr 0] (st) h Q ↔ WP 2 30 [.ref x0, .ref x1, .int x2, .int x3, .int x4, .retAddr 0, .retAddr 0] (.int x4 :: st) h Q) ∧
  (∀ (x0 : Nat) (x1 : Nat) (x2 : Int32) (x3 : Int32) (x4 : Int32) (st : List Value) (h : AH) (Q : Option Value → AH → Prop), WP 2 30 [.ref x0, .ref x1, .int x2, .int x3, .int x4, .retAddr 0, .retAddr 0] (st) h Q ↔ WP 2 31 [.ref x0, .ref x1, .int x2, .int x3, .int x4, .retAddr 0, .retAddr 0] (.ref x1 :: st) h Q) ∧
  (∀ (x0 : Nat) (x1 : Nat) (x2 : Int32) (x3 : Int32) (x4 : Int32) (st : List Value) (h : AH) (Q : Option Value → AH → Prop), WP 2 31 [.ref x0, .ref x1, .int x2, .int x3, .int x4, .retAddr 0, .retAddr 0] (st) h Q ↔ WP 2 33 [.ref x0, .ref x1, .int x2, .int x3, .int x4, .retAddr 0, .retAddr 0] (.int x4 :: st) h Q) ∧
  (∀ (x0 : Nat) (x1 : Nat) (x2 : Int32) (x3 : Int32) (x4 : Int32) (st : List Value) (h : AH) (Q : Option Value → AH → Prop), WP 2 33 [.ref x0, .ref x1, .int x2, .int x3, .int x4, .retAddr 0, .retAddr 0] (st) h Q ↔ WP 2 34 [.ref x0, .ref x1, .int x2, .int x3, .int x4, .retAddr 0, .retAddr 0] (.int x3 :: st) h Q) ∧
  (∀ (x0 : Nat) (x1 : Nat) (x2 : Int32) (x3 : Int32) (x4 : Int32) (y5 : Nat) (y4 : Int32) (y3 : Int32) (y2 : Nat) (y1 : Int32) (y0 : Int32) (h : AH) (Q : Option Value → AH → Prop), WP 2 34 [.ref x0, .ref x1, .int x2, .int x3, .int x4, .retAddr 0, .retAddr 0] ([.int y0, .int y1, .ref y2, .int y3, .int y4, .ref y5]) h Q ↔ WPM 3 [.ref y2, .int y1, .int y0] h (fun r h' => WP 2 37 [.ref x0, .ref x1, .int x2, .int x3, .int x4, .retAddr 0, .retAddr 0] (r.toList ++ [.int y3, .int y4, .ref y5]) h' Q)) ∧
  (∀ (x0 : Nat) (x1 : Nat) (x2 : Int32) (x3 : Int32) (x4 : Int32) (st : List Value) (h : AH) (Q : Option Value → AH → Prop), WP 2 37 [.ref x0, .ref x1, .int x2, .int x3, .int x4, .retAddr 0, .retAddr 0] (st) h Q ↔ WP 2 38 [.ref x0, .ref x1, .int x2, .int x3, .int x4, .retAddr 0, .retAddr 0] (.int (1) :: st) h Q) ∧
  (∀ (x0 : Nat) (x1 : Nat) (x2 : Int32) (x3 : Int32) (x4 : Int32) (st : List Value) (h : AH) (Q : Option Value → AH → Prop), WP 2 38 [.ref x0, .ref x1, .int x2, .int x3, .int x4, .retAddr 0, .retAddr 0] (st) h Q ↔ WP 2 40 [.ref x0, .ref x1, .int x2, .int x3, .int x4, .retAddr 0, .retAddr 0] (.int x4 :: st) h Q) ∧
  (∀ (x0 : Nat) (x1 : Nat) (x2 : Int32) (x3 : Int32) (x4 : Int32) (y0 : Int32) (y1 : Int32) (st : List Value) (h : AH) (Q : Option Value → AH → Prop), WP 2 40 [.ref x0, .ref x1, .int x2, .int x3, .int x4, .retAddr 0, .retAddr 0] (.int y0 :: .int y1 :: st) h Q ↔ WP 2 41 [.ref x0, .ref x1, .int x2, .int x3, .int x4, .retAddr 0, .retAddr 0] (.int (y1 <<< (y0 &&& 31)) :: st) h Q) ∧
  (∀ (x0 : Nat) (x1 : Nat) (x2 : Int32) (x3 : Int32) (x4 : Int32) (st : List Value) (h : AH) (Q : Option Value → AH → Prop), WP 2 41 [.ref x0, .ref x1, .int x2, .int x3, .int x4, .retAddr 0, .retAddr 0] (st) h Q ↔ WP 2 42 [.ref x0, .ref x1, .int x2, .int x3, .int x4, .retAddr 0, .retAddr 0] (.int (0) :: st) h Q) ∧
  (∀ (x0 : Nat) (x1 : Nat) (x2 : Int32) (x3 : Int32) (x4 : Int32) (y5 : Nat) (y4 : Int32) (y3 : Int32) (y2 : Int32) (y1 : Int32) (y0 : Int32) (h : AH) (Q : Option Value → AH → Prop) (ht : hT h y5 = 1), WP 2 42 [.ref x0, .ref x1, .int x2, .int x3, .int x4, .retAddr 0, .retAddr 0] ([.int y0, .int y1, .int y2, .int y3, .int y4, .ref y5]) h Q ↔ WPM 5 [.ref y5, .int y4, .int y3, .int y2, .int y1, .int y0] h (fun r h' => WP 2 45 [.ref x0, .ref x1, .int x2, .int x3, .int x4, .retAddr 0, .retAddr 0] (r.toList ++ []) h' Q)) ∧
  (∀ (x0 : Nat) (x1 : Nat) (x2 : Int32) (x3 : Int32) (x4 : Int32) (st : List Value) (h : AH) (Q : Option Value → AH → Prop), WP 2 45 [.ref x0, .ref x1, .int x2, .int x3, .int x4, .retAddr 0, .retAddr 0] (st) h Q ↔ WP 2 48 [.ref x0, .ref x1, .int x2, .int x3, .int (x4 + (1)), .retAddr 0, .retAddr 0] (st) h Q) ∧
  (∀ (x0 : Nat) (x1 : Nat) (x2 : Int32) (x3 : Int32) (x4 : Int32) (st : List Value) (h : AH) (Q : Option Value → AH → Prop), WP 2 48 [.ref x0, .ref x1, .int x2, .int x3, .int x4, .retAddr 0, .retAddr 0] (st) h Q ↔ WP 2 16 [.ref x0, .ref x1, .int x2, .int x3, .int x4, .retAddr 0, .retAddr 0] (st) h Q) ∧
  (∀ (x0 : Nat) (x1 : Nat) (x2 : Int32) (x3 : Int32) (x4 : Int32) (st : List Value) (h : AH) (Q : Option Value → AH → Prop), WP 2 51 [.ref x0, .ref x1, .int x2, .int x3, .int x4, .retAddr 0, .retAddr 0] (st) h Q ↔ WP 2 52 [.ref x0, .ref x1, .int x2, .int x3, .int x4, .retAddr 0, .retAddr 0] (.int (0) :: st) h Q) ∧
  (∀ (x0 : Nat) (x1 : Nat) (x2 : Int32) (x3 : Int32) (x4 : Int32) (y0 : Int32) (st : List Value) (h : AH) (Q : Option Value → AH → Prop), WP 2 52 [.ref x0, .ref x1, .int x2, .int x3, .int x4, .retAddr 0, .retAddr 0] (.int y0 :: st) h Q ↔ WP 2 54 [.ref x0, .ref x1, .int x2, .int x3, .int y0, .retAddr 0, .retAddr 0] (st) h Q) ∧
  (∀ (x0 : Nat) (x1 : Nat) (x2 : Int32) (x3 : Int32) (x4 : Int32) (st : List Value) (h : AH) (Q : Option Value → AH → Prop), WP 2 56 [.ref x0, .ref x1, .int x2, .int x3, .int x4, .retAddr 0, .retAddr 0] (st) h Q ↔ WP 2 57 [.ref x0, .ref x1, .int x2, .int x3, .int x4, .retAddr 0, .retAddr 0] (.ref x1 :: st) h Q) ∧
  (∀ (x0 : Nat) (x1 : Nat) (x2 : Int32) (x3 : Int32) (x4 : Int32) (y0 : Nat) (st : List Value) (h : AH) (Q : Option Value → AH → Prop) (ht : hT h y0 = 4), WP 2 57 [.ref x0, .ref x1, .int x2, .int x3, .int x4, .retAddr 0, .retAddr 0] (.ref y0 :: st) h Q ↔ WP 2 60 [.ref x0, .ref x1, .int x2, .int x3, .int x4, .retAddr 0, .retAddr 0] (.int (hI h y0 0) :: st) h Q) ∧
  (∀ (x0 : Nat) (x1 : Nat) (x2 : Int32) (x3 : Int32) (x4 : Int32) (y0 : Int32) (y1 : Int32) (st : List Value) (h : AH) (Q : Option Value → AH → Prop), WP 2 60 [.ref x0, .ref x1, .int x2, .int x3, .int x4, .retAddr 0, .retAddr 0] (.int y0 :: .int y1 :: st) h Q ↔ ((y0 ≤ y1 → WP 2 97 [.ref x0, .ref x1, .int x2, .int x3, .int x4, .retAddr 0, .retAddr 0] (st) h Q) ∧ (¬ y0 ≤ y1 → WP 2 63 [.ref x0, .ref x1, .int x2, .int x3, .int x4, .retAddr 0, .retAddr 0] (st) h Q))) ∧
  (∀ (x0 : Nat) (x1 : Nat) (x2 : Int32) (x3 : Int32) (x4 : Int32) (st : List Value) (h : AH) (Q : Option Value → AH → Prop), WP 2 63 [.ref x0, .ref x1, .int x2, .int x3, .int x4, .retAddr 0, .retAddr 0] (st) h Q ↔ WP 2 64 [.ref x0, .ref x1, .int x2, .int x3, .int x4, .retAddr 0, .retAddr 0] (.ref x0 :: st) h Q) ∧
  (∀ (x0 : Nat) (x1 : Nat) (x2 : Int32) (x3 : Int32) (x4 : Int32) (st : List Value) (h : AH) (Q : Option Value → AH → Prop), WP 2 64 [.ref x0, .ref x1, .int x2, .int x3, .int x4, .retAddr 0, .retAddr 0] (st) h Q ↔ WP 2 66 [.ref x0, .ref x1, .int x2, .int x3, .int x4, .retAddr 0, .retAddr 0] (.int (20) :: st) h Q) ∧
  (∀ (x0 : Nat) (x1 : Nat) (x2 : Int32) (x3 : Int32) (x4 : Int32) (st : List Value) (h : AH) (Q : Option Value → AH → Prop), WP 2 66 [.ref x0, .ref x1, .int x2, .int x3, .int x4, .retAddr 0, .retAddr 0] (st) h Q ↔ WP 2 68 [.ref x0, .ref x1, .int x2, .int x3, .int x4, .retAddr 0, .retAddr 0] (.int x4 :: st) h Q) ∧
  (∀ (x0 : Nat) (x1 : Nat) (x2 : Int32) (x3 : Int32) (x4 : Int32) (y0 : Int32) (y1 : Int32) (st : List Value) (h : AH) (Q : Option Value → AH → Prop), WP 2 68 [.ref x0, .ref x1, .int x2, .int x3, .int x4, .retAddr 0, .retAddr 0] (.int y0 :: .int y1 :: st) h Q ↔ WP 2 69 [.ref x0, .ref x1, .int x2, .int x3, .int x4, .retAddr 0, .retAddr 0] (.int (y1 + y0) :: st) h Q) ∧
  (∀ (x0 : Nat) (x1 : Nat) (x2 : Int32) (x3 : Int32) (x4 : Int32) (st : List Value) (h : AH) (Q : Option Value → AH → Prop), WP 2 69 [.ref x0, .ref x1, .int x2, .int x3, .int x4, .retAddr 0, .retAddr 0] (st) h Q ↔ WP 2 70 [.ref x0, .ref x1, .int x2, .int x3, .int x4, .retAddr 0, .retAddr 0] (.int (-1) :: st) h Q) ∧
  (∀ (x0 : Nat) (x1 : Nat) (x2 : Int32) (x3 : Int32) (x4 : Int32) (st : List Value) (h : AH) (Q : Option Value → AH → Prop), WP 2 70 [.ref x0, .ref x1, .int x2, .int x3, .int x4, .retAddr 0, .retAddr 0] (st) h Q ↔ WP 2 71 [.ref x0, .ref x1, .int x2, .int x3, .int x4, .retAddr 0, .retAddr 0] (.int (1) :: st) h Q) ∧
  (∀ (x0 : Nat) (x1 : Nat) (x2 : Int32) (x3 : Int32) (x4 : Int32) (st : List Value) (h : AH) (Q : Option Value → AH → Prop), WP 2 71 [.ref x0, .ref x1, .int x2, .int x3, .int x4, .retAddr 0, .retAddr 0] (st) h Q ↔ WP 2 73 [.ref x0, .ref x1, .int x2, .int x3, .int x4, .retAddr 0, .retAddr 0] (.int x4 :: st) h Q) ∧
  (∀ (x0 : Nat) (x1 : Nat) (x2 : Int32) (x3 : Int32) (x4 : Int32) (y0 : Int32) (y1 : Int32) (st : List Value) (h : AH) (Q : Option Value → AH → Prop), WP 2 73 [.ref x0, .ref x1, .int x2, .int x3, .int x4, .retAddr 0, .retAddr 0] (.int y0 :: .int y1 :: st) h Q ↔ WP 2 74 [.ref x0, .ref x1, .int x2, .int x3, .int x4, .retAddr 0, .retAddr 0] (.int (y1 <<< (y0 &&& 31)) :: st) h Q) ∧
  (∀ (x0 : Nat) (x1 : Nat) (x2 : Int32) (x3 : Int32) (x4 : Int32) (st : List Value) (h : AH) (Q : Option Value → AH → Prop), WP 2 74 [.ref x0, .ref x1, .int x2, .int x3, .int x4, .retAddr 0, .retAddr 0] (st) h Q ↔ WP 2 75 [.ref x0, .ref x1, .int x2, .int x3, .int x4, .retAddr 0, .retAddr 0] (.ref x1 :: st) h Q) :=
  ⟨fun _ _ _ _ _ _ _ => WP_s (show ct 2 0 = some (.aload_n 0, 0, []) by decide +kernel) rfl,
  fun _ _ _ _ _ _ _ => WP_s (show ct 2 1 = some (.iconst 0, 0, []) by decide +kernel) rfl,
  fun _ _ _ _ _ _ _ _ _ ht => WH_pI (show ct 2 2 = some (.putfield 27, 1, [0, 0, 0, 0, 351]) by decide +kernel) ht,
  fun _ _ _ _ _ _ _ => WP_s (show ct 2 5 = some (.aload_n 0, 0, []) by decide +kernel) rfl,
  fun _ _ _ _ _ _ _ => WP_s (show ct 2 6 = some (.aload_n 1, 0, []) by decide +kernel) rfl,
  fun _ _ _ _ _ _ _ _ ht => WC_1 (show ct 2 7 = some (.invokevirtual 31, 3, [25, 1, 1, 4, 0, 781, 782, 783]) by decide +kernel) (Nat.le_of_ble_eq_true rfl) (Nat.le_of_ble_eq_true rfl) rfl rfl ht,
  fun _ _ _ _ _ _ _ _ _ ht => WH_pI (show ct 2 10 = some (.putfield 37, 1, [0, 1, 0, 0, 355]) by decide +kernel) ht,
  fun _ _ _ _ _ _ _ => WP_s (show ct 2 13 = some (.iconst 0, 0, []) by decide +kernel) rfl,
  fun _ _ _ _ _ _ _ _ => WP_s (show ct 2 14 = some (.istore 4, 0, []) by decide +kernel) rfl,
  fun _ _ _ _ _ _ _ _ => WP_s (show ct 2 18 = some (.aload_n 1, 0, []) by decide +kernel) rfl,
  fun _ _ _ _ _ _ _ _ _ ht => WH_gI (show ct 2 19 = some (.getfield 39, 1, [3, 0, 0, 135]) by decide +kernel) (by decide) ht,
  fun _ _ _ _ _ _ _ _ _ _ => WI_ge (show ct 2 22 = some (.if_icmp .ge 29, 0, [51]) by decide +kernel) (by decide),
  fun _ _ _ _ _ _ _ _ => WP_s (show ct 2 25 = some (.aload_n 0, 0, []) by decide +kernel) rfl,
  fun _ _ _ _ _ _ _ _ => WP_s (show ct 2 26 = some (.iload 4, 0, []) by decide +kernel) rfl,
  fun _ _ _ _ _ _ _ _ => WP_s (show ct 2 28 = some (.iload 4, 0, []) by decide +kernel) rfl,
  fun _ _ _ _ _ _ _ _ => WP_s (show ct 2 30 = some (.aload_n 1, 0, []) by decide +kernel) rfl,
  fun _ _ _ _ _ _ _ _ => WP_s (show ct 2 31 = some (.iload 4, 0, []) by decide +kernel) rfl,
  fun _ _ _ _ _ _ _ _ => WP_s (show ct 2 33 = some (.iload_n 3, 0, []) by decide +kernel) rfl,
  fun _ _ _ _ _ _ _ _ _ _ _ _ _ => WC_0 (show ct 2 34 = some (.invokestatic 42, 3, [3, 3, 0, 0, 0, 785, 786, 0]) by decide +kernel) (Nat.le_of_ble_eq_true rfl) (Nat.le_of_ble_eq_true rfl) rfl rfl,
  fun _ _ _ _ _ _ _ _ => WP_s (show ct 2 37 = some (.iconst 1, 0, []) by decide +kernel) rfl,
  fun _ _ _ _ _ _ _ _ => WP_s (show ct 2 38 = some (.iload 4, 0, []) by decide +kernel) rfl,
  fun _ _ _ _ _ _ _ _ _ _ => WP_s (show ct 2 40 = some (.ishl, 0, []) by decide +kernel) rfl,
  fun _ _ _ _ _ _ _ _ => WP_s (show ct 2 41 = some (.iconst 0, 0, []) by decide +kernel) rfl,
  fun _ _ _ _ _ _ _ _ _ _ _ _ _ ht => WC_1 (show ct 2 42 = some (.invokevirtual 46, 3, [5, 6, 1, 1, 0, 788, 790, 19]) by decide +kernel) (Nat.le_of_ble_eq_true rfl) (Nat.le_of_ble_eq_true rfl) rfl rfl ht,
  fun _ _ _ _ _ _ _ _ => WP_s (show ct 2 45 = some (.iinc 4 1, 0, []) by decide +kernel) rfl,
  fun _ _ _ _ _ _ _ _ => WP_s (show ct 2 48 = some (.goto (-32), 0, [16]) by decide +kernel) rfl,
  fun _ _ _ _ _ _ _ _ => WP_s (show ct 2 51 = some (.iconst 0, 0, []) by decide +kernel) rfl,
  fun _ _ _ _ _ _ _ _ _ => WP_s (show ct 2 52 = some (.istore 4, 0, []) by decide +kernel) rfl,
  fun _ _ _ _ _ _ _ _ => WP_s (show ct 2 56 = some (.aload_n 1, 0, []) by decide +kernel) rfl,
  fun _ _ _ _ _ _ _ _ _ ht => WH_gI (show ct 2 57 = some (.getfield 39, 1, [3, 0, 0, 135]) by decide +kernel) (by decide) ht,
  fun _ _ _ _ _ _ _ _ _ _ => WI_ge (show ct 2 60 = some (.if_icmp .ge 37, 0, [97]) by decide +kernel) (by decide),
  fun _ _ _ _ _ _ _ _ => WP_s (show ct 2 63 = some (.aload_n 0, 0, []) by decide +kernel) rfl,
  fun _ _ _ _ _ _ _ _ => WP_s (show ct 2 64 = some (.bipush 20, 0, []) by decide +kernel) rfl,
  fun _ _ _ _ _ _ _ _ => WP_s (show ct 2 66 = some (.iload 4, 0, []) by decide +kernel) rfl,
  fun _ _ _ _ _ _ _ _ _ _ => WP_s (show ct 2 68 = some (.iadd, 0, []) by decide +kernel) rfl,
  fun _ _ _ _ _ _ _ _ => WP_s (show ct 2 69 = some (.iconst (-1), 0, []) by decide +kernel) rfl,
  fun _ _ _ _ _ _ _ _ => WP_s (show ct 2 70 = some (.iconst 1, 0, []) by decide +kernel) rfl,
  fun _ _ _ _ _ _ _ _ => WP_s (show ct 2 71 = some (.iload 4, 0, []) by decide +kernel) rfl,
  fun _ _ _ _ _ _ _ _ _ _ => WP_s (show ct 2 73 = some (.ishl, 0, []) by decide +kernel) rfl,
  fun _ _ _ _ _ _ _ _ => WP_s (show ct 2 74 = some (.aload_n 1, 0, []) by decide +kernel) rfl⟩
set_option maxRecDepth 10000 in
theorem w2_b : (∀ (x0 : Nat) (x1 : Nat) (x2 : Int32) (x3 : Int32) (x4 : Int32) (st : List Value) (h : AH) (Q : Option Value → AH → Prop), WP 2 75 [.ref x0, .ref x1, .int x2, .int x3, .int x4, .retAddr 0, .retAddr 0] (st) h Q ↔ WP 2 76 [.ref x0, .ref x1, .int x2, .int x3, .int x4, .retAddr 0, .retAddr 0] (.int x2 :: st) h Q) ∧
  (∀ (x0 : Nat) (x1 : Nat) (x2 : Int32) (x3 : Int32) (x4 : Int32) (st : List Value) (h : AH) (Q : Option Value → AH → Prop), WP 2 76 [.ref x0, .ref x1, .int x2, .int x3, .int x4, .retAddr 0, .retAddr 0] (st) h Q ↔ WP 2 78 [.ref x0, .ref x1, .int x2, .int x3, .int x4, .retAddr 0, .retAddr 0] (.int x4 :: st) h Q) ∧
  (∀ (x0 : Nat) (x1 : Nat) (x2 : Int32) (x3 : Int32) (x4 : Int32) (st : List Value) (h : AH) (Q : Option Value → AH → Prop), WP 2 78 [.ref x0, .ref x1, .int x2, .int x3, .int x4, .retAddr 0, .retAddr 0] (st) h Q ↔ WP 2 79 [.ref x0, .ref x1, .int x2, .int x3, .int x4, .retAddr 0, .retAddr 0] (.int x3 :: st) h Q) ∧
  (∀ (x0 : Nat) (x1 : Nat) (x2 : Int32) (x3 : Int32) (x4 : Int32) (y7 : Nat) (y6 : Int32) (y5 : Int32) (y4 : Int32) (y3 : Nat) (y2 : Int32) (y1 : Int32) (y0 : Int32) (h : AH) (Q : Option Value → AH → Prop), WP 2 79 [.ref x0, .ref x1, .int x2, .int x3, .int x4, .retAddr 0, .retAddr 0] ([.int y0, .int y1, .int y2, .ref y3, .int y4, .int y5, .int y6, .ref y7]) h Q ↔ WPM 4 [.ref y3, .int y2, .int y1, .int y0] h (fun r h' => WP 2 82 [.ref x0, .ref x1, .int x2, .int x3, .int x4, .retAddr 0, .retAddr 0] (r.toList ++ [.int y4, .int y5, .int y6, .ref y7]) h' Q)) ∧
  (∀ (x0 : Nat) (x1 : Nat) (x2 : Int32) (x3 : Int32) (x4 : Int32) (y0 : Int32) (y1 : Int32) (st : List Value) (h : AH) (Q : Option Value → AH → Prop), WP 2 82 [.ref x0, .ref x1, .int x2, .int x3, .int x4, .retAddr 0, .retAddr 0] (.int y0 :: .int y1 :: st) h Q ↔ WP 2 83 [.ref x0, .ref x1, .int x2, .int x3, .int x4, .retAddr 0, .retAddr 0] (.int (y1 ||| y0) :: st) h Q) ∧
  (∀ (x0 : Nat) (x1 : Nat) (x2 : Int32) (x3 : Int32) (x4 : Int32) (st : List Value) (h : AH) (Q : Option Value → AH → Prop), WP 2 83 [.ref x0, .ref x1, .int x2, .int x3, .int x4, .retAddr 0, .retAddr 0] (st) h Q ↔ WP 2 84 [.ref x0, .ref x1, .int x2, .int x3, .int x4, .retAddr 0, .retAddr 0] (.int (0) :: st) h Q) ∧
  (∀ (x0 : Nat) (x1 : Nat) (x2 : Int32) (x3 : Int32) (x4 : Int32) (st : List Value) (h : AH) (Q : Option Value → AH → Prop), WP 2 84 [.ref x0, .ref x1, .int x2, .int x3, .int x4, .retAddr 0, .retAddr 0] (st) h Q ↔ WP 2 85 [.ref x0, .ref x1, .int x2, .int x3, .int x4, .retAddr 0, .retAddr 0] (.int (1) :: st) h Q) ∧
  (∀ (x0 : Nat) (x1 : Nat) (x2 : Int32) (x3 : Int32) (x4 : Int32) (st : List Value) (h : AH) (Q : Option Value → AH → Prop), WP 2 85 [.ref x0, .ref x1, .int x2, .int x3, .int x4, .retAddr 0, .retAddr 0] (st) h Q ↔ WP 2 87 [.ref x0, .ref x1, .int x2, .int x3, .int x4, .retAddr 0, .retAddr 0] (.int x4 :: st) h Q) ∧
  (∀ (x0 : Nat) (x1 : Nat) (x2 : Int32) (x3 : Int32) (x4 : Int32) (y0 : Int32) (y1 : Int32) (st : List Value) (h : AH) (Q : Option Value → AH → Prop), WP 2 87 [.ref x0, .ref x1, .int x2, .int x3, .int x4, .retAddr 0, .retAddr 0] (.int y0 :: .int y1 :: st) h Q ↔ WP 2 88 [.ref x0, .ref x1, .int x2, .int x3, .int x4, .retAddr 0, .retAddr 0] (.int (y1 <<< (y0 &&& 31)) :: st) h Q) ∧
  (∀ (x0 : Nat) (x1 : Nat) (x2 : Int32) (x3 : Int32) (x4 : Int32) (y5 : Nat) (y4 : Int32) (y3 : Int32) (y2 : Int32) (y1 : Int32) (y0 : Int32) (h : AH) (Q : Option Value → AH → Prop) (ht : hT h y5 = 1), WP 2 88 [.ref x0, .ref x1, .int x2, .int x3, .int x4, .retAddr 0, .retAddr 0] ([.int y0, .int y1, .int y2, .int y3, .int y4, .ref y5]) h Q ↔ WPM 5 [.ref y5, .int y4, .int y3, .int y2, .int y1, .int y0] h (fun r h' => WP 2 91 [.ref x0, .ref x1, .int x2, .int x3, .int x4, .retAddr 0, .retAddr 0] (r.toList ++ []) h' Q)) ∧
  (∀ (x0 : Nat) (x1 : Nat) (x2 : Int32) (x3 : Int32) (x4 : Int32) (st : List Value) (h : AH) (Q : Option Value → AH → Prop), WP 2 91 [.ref x0, .ref x1, .int x2, .int x3, .int x4, .retAddr 0, .retAddr 0] (st) h Q ↔ WP 2 94 [.ref x0, .ref x1, .int x2, .int x3, .int (x4 + (1)), .retAddr 0, .retAddr 0] (st) h Q) ∧
  (∀ (x0 : Nat) (x1 : Nat) (x2 : Int32) (x3 : Int32) (x4 : Int32) (st : List Value) (h : AH) (Q : Option Value → AH → Prop), WP 2 94 [.ref x0, .ref x1, .int x2, .int x3, .int x4, .retAddr 0, .retAddr 0] (st) h Q ↔ WP 2 54 [.ref x0, .ref x1, .int x2, .int x3, .int x4, .retAddr 0, .retAddr 0] (st) h Q) ∧
  (∀ (x0 : Nat) (x1 : Nat) (x2 : Int32) (x3 : Int32) (x4 : Int32) (st : List Value) (h : AH) (Q : Option Value → AH → Prop), WP 2 97 [.ref x0, .ref x1, .int x2, .int x3, .int x4, .retAddr 0, .retAddr 0] (st) h Q ↔ WP 2 98 [.ref x0, .ref x1, .int x2, .int x3, .int x4, .retAddr 0, .retAddr 0] (.int x2 :: st) h Q) ∧
  (∀ (x0 : Nat) (x1 : Nat) (x2 : Int32) (x3 : Int32) (x4 : Int32) (st : List Value) (h : AH) (Q : Option Value → AH → Prop), WP 2 98 [.ref x0, .ref x1, .int x2, .int x3, .int x4, .retAddr 0, .retAddr 0] (st) h Q ↔ WP 2 99 [.ref x0, .ref x1, .int x2, .int x3, .int x4, .retAddr 0, .retAddr 0] (.int (1) :: st) h Q) ∧
  (∀ (x0 : Nat) (x1 : Nat) (x2 : Int32) (x3 : Int32) (x4 : Int32) (y0 : Int32) (y1 : Int32) (st : List Value) (h : AH) (Q : Option Value → AH → Prop), WP 2 99 [.ref x0, .ref x1, .int x2, .int x3, .int x4, .retAddr 0, .retAddr 0] (.int y0 :: .int y1 :: st) h Q ↔ WP 2 100 [.ref x0, .ref x1, .int x2, .int x3, .int x4, .retAddr 0, .retAddr 0] (.int (y1 &&& y0) :: st) h Q) ∧
  (∀ (x0 : Nat) (x1 : Nat) (x2 : Int32) (x3 : Int32) (x4 : Int32) (y0 : Int32) (st : List Value) (h : AH) (Q : Option Value → AH → Prop), WP 2 100 [.ref x0, .ref x1, .int x2, .int x3, .int x4, .retAddr 0, .retAddr 0] (.int y0 :: st) h Q ↔ ((¬ y0 = 0 → WP 2 104 [.ref x0, .ref x1, .int x2, .int x3, .int x4, .retAddr 0, .retAddr 0] (st) h Q) ∧ (y0 = 0 → WP 2 103 [.ref x0, .ref x1, .int x2, .int x3, .int x4, .retAddr 0, .retAddr 0] (st) h Q))) ∧
  (∀ (x0 : Nat) (x1 : Nat) (x2 : Int32) (x3 : Int32) (x4 : Int32) (h : AH) (Q : Option Value → AH → Prop), WP 2 103 [.ref x0, .ref x1, .int x2, .int x3, .int x4, .retAddr 0, .retAddr 0] ([]) h Q ↔ Q none h) ∧
  (∀ (x0 : Nat) (x1 : Nat) (x2 : Int32) (x3 : Int32) (x4 : Int32) (st : List Value) (h : AH) (Q : Option Value → AH → Prop), WP 2 104 [.ref x0, .ref x1, .int x2, .int x3, .int x4, .retAddr 0, .retAddr 0] (st) h Q ↔ WP 2 105 [.ref x0, .ref x1, .int x2, .int x3, .int x4, .retAddr 0, .retAddr 0] (.int (0) :: st) h Q) ∧
  (∀ (x0 : Nat) (x1 : Nat) (x2 : Int32) (x3 : Int32) (x4 : Int32) (y0 : Int32) (st : List Value) (h : AH) (Q : Option Value → AH → Prop), WP 2 105 [.ref x0, .ref x1, .int x2, .int x3, .int x4, .retAddr 0, .retAddr 0] (.int y0 :: st) h Q ↔ WP 2 107 [.ref x0, .ref x1, .int x2, .int x3, .int y0, .retAddr 0, .retAddr 0] (st) h Q) ∧
  (∀ (x0 : Nat) (x1 : Nat) (x2 : Int32) (x3 : Int32) (x4 : Int32) (x5 : Value) (x6 : Value) (st : List Value) (h : AH) (Q : Option Value → AH → Prop), WP 2 109 [.ref x0, .ref x1, .int x2, .int x3, .int x4, x5, x6] (st) h Q ↔ WP 2 110 [.ref x0, .ref x1, .int x2, .int x3, .int x4, x5, x6] (.ref x1 :: st) h Q) ∧
  (∀ (x0 : Nat) (x1 : Nat) (x2 : Int32) (x3 : Int32) (x4 : Int32) (x5 : Value) (x6 : Value) (y0 : Nat) (st : List Value) (h : AH) (Q : Option Value → AH → Prop) (ht : hT h y0 = 4), WP 2 110 [.ref x0, .ref x1, .int x2, .int x3, .int x4, x5, x6] (.ref y0 :: st) h Q ↔ WP 2 113 [.ref x0, .ref x1, .int x2, .int x3, .int x4, x5, x6] (.int (hI h y0 0) :: st) h Q) ∧
  (∀ (x0 : Nat) (x1 : Nat) (x2 : Int32) (x3 : Int32) (x4 : Int32) (x5 : Value) (x6 : Value) (y0 : Int32) (y1 : Int32) (st : List Value) (h : AH) (Q : Option Value → AH → Prop), WP 2 113 [.ref x0, .ref x1, .int x2, .int x3, .int x4, x5, x6] (.int y0 :: .int y1 :: st) h Q ↔ ((y0 ≤ y1 → WP 2 190 [.ref x0, .ref x1, .int x2, .int x3, .int x4, x5, x6] (st) h Q) ∧ (¬ y0 ≤ y1 → WP 2 116 [.ref x0, .ref x1, .int x2, .int x3, .int x4, x5, x6] (st) h Q))) ∧
  (∀ (x0 : Nat) (x1 : Nat) (x2 : Int32) (x3 : Int32) (x4 : Int32) (x5 : Value) (x6 : Value) (st : List Value) (h : AH) (Q : Option Value → AH → Prop), WP 2 116 [.ref x0, .ref x1, .int x2, .int x3, .int x4, x5, x6] (st) h Q ↔ WP 2 117 [.ref x0, .ref x1, .int x2, .int x3, .int x4, x5, x6] (.ref x1 :: st) h Q) ∧
  (∀ (x0 : Nat) (x1 : Nat) (x2 : Int32) (x3 : Int32) (x4 : Int32) (x5 : Value) (x6 : Value) (st : List Value) (h : AH) (Q : Option Value → AH → Prop), WP 2 117 [.ref x0, .ref x1, .int x2, .int x3, .int x4, x5, x6] (st) h Q ↔ WP 2 119 [.ref x0, .ref x1, .int x2, .int x3, .int x4, x5, x6] (.int x4 :: st) h Q) ∧
  (∀ (x0 : Nat) (x1 : Nat) (x2 : Int32) (x3 : Int32) (x4 : Int32) (x5 : Value) (x6 : Value) (st : List Value) (h : AH) (Q : Option Value → AH → Prop), WP 2 119 [.ref x0, .ref x1, .int x2, .int x3, .int x4, x5, x6] (st) h Q ↔ WP 2 120 [.ref x0, .ref x1, .int x2, .int x3, .int x4, x5, x6] (.int x3 :: st) h Q) ∧
  (∀ (x0 : Nat) (x1 : Nat) (x2 : Int32) (x3 : Int32) (x4 : Int32) (x5 : Value) (x6 : Value) (y2 : Nat) (y1 : Int32) (y0 : Int32) (h : AH) (Q : Option Value → AH → Prop), WP 2 120 [.ref x0, .ref x1, .int x2, .int x3, .int x4, x5, x6] ([.int y0, .int y1, .ref y2]) h Q ↔ WPM 3 [.ref y2, .int y1, .int y0] h (fun r h' => WP 2 123 [.ref x0, .ref x1, .int x2, .int x3, .int x4, x5, x6] (r.toList ++ []) h' Q)) ∧
  (∀ (x0 : Nat) (x1 : Nat) (x2 : Int32) (x3 : Int32) (x4 : Int32) (x5 : Value) (x6 : Value) (y0 : Int32) (st : List Value) (h : AH) (Q : Option Value → AH → Prop), WP 2 123 [.ref x0, .ref x1, .int x2, .int x3, .int x4, x5, x6] (.int y0 :: st) h Q ↔ WP 2 125 [.ref x0, .ref x1, .int x2, .int x3, .int x4, .int y0, x6] (st) h Q) ∧
  (∀ (x0 : Nat) (x1 : Nat) (x2 : Int32) (x3 : Int32) (x4 : Int32) (x5 : Int32) (x6 : Value) (st : List Value) (h : AH) (Q : Option Value → AH → Prop), WP 2 125 [.ref x0, .ref x1, .int x2, .int x3, .int x4, .int x5, x6] (st) h Q ↔ WP 2 126 [.ref x0, .ref x1, .int x2, .int x3, .int x4, .int x5, x6] (.int (0) :: st) h Q) ∧
  (∀ (x0 : Nat) (x1 : Nat) (x2 : Int32) (x3 : Int32) (x4 : Int32) (x5 : Int32) (x6 : Value) (y0 : Int32) (st : List Value) (h : AH) (Q : Option Value → AH → Prop), WP 2 126 [.ref x0, .ref x1, .int x2, .int x3, .int x4, .int x5, x6] (.int y0 :: st) h Q ↔ WP 2 128 [.ref x0, .ref x1, .int x2, .int x3, .int x4, .int x5, .int y0] (st) h Q) ∧
  (∀ (x0 : Nat) (x1 : Nat) (x2 : Int32) (x3 : Int32) (x4 : Int32) (x5 : Int32) (x6 : Int32) (st : List Value) (h : AH) (Q : Option Value → AH → Prop), WP 2 130 [.ref x0, .ref x1, .int x2, .int x3, .int x4, .int x5, .int x6] (st) h Q ↔ WP 2 132 [.ref x0, .ref x1, .int x2, .int x3, .int x4, .int x5, .int x6] (.int x4 :: st) h Q) ∧
  (∀ (x0 : Nat) (x1 : Nat) (x2 : Int32) (x3 : Int32) (x4 : Int32) (x5 : Int32) (x6 : Int32) (y0 : Int32) (y1 : Int32) (st : List Value) (h : AH) (Q : Option Value → AH → Prop), WP 2 132 [.ref x0, .ref x1, .int x2, .int x3, .int x4, .int x5, .int x6] (.int y0 :: .int y1 :: st) h Q ↔ ((y0 ≤ y1 → WP 2 184 [.ref x0, .ref x1, .int x2, .int x3, .int x4, .int x5, .int x6] (st) h Q) ∧ (¬ y0 ≤ y1 → WP 2 135 [.ref x0, .ref x1, .int x2, .int x3, .int x4, .int x5, .int x6] (st) h Q))) ∧
  (∀ (x0 : Nat) (x1 : Nat) (x2 : Int32) (x3 : Int32) (x4 : Int32) (x5 : Int32) (x6 : Int32) (st : List Value) (h : AH) (Q : Option Value → AH → Prop), WP 2 135 [.ref x0, .ref x1, .int x2, .int x3, .int x4, .int x5, .int x6] (st) h Q ↔ WP 2 137 [.ref x0, .ref x1, .int x2, .int x3, .int x4, .int x5, .int x6] (.int x5 :: st) h Q) ∧
  (∀ (x0 : Nat) (x1 : Nat) (x2 : Int32) (x3 : Int32) (x4 : Int32) (x5 : Int32) (x6 : Int32) (st : List Value) (h : AH) (Q : Option Value → AH → Prop), WP 2 137 [.ref x0, .ref x1, .int x2, .int x3, .int x4, .int x5, .int x6] (st) h Q ↔ WP 2 139 [.ref x0, .ref x1, .int x2, .int x3, .int x4, .int x5, .int x6] (.int x6 :: st) h Q) ∧
  (∀ (x0 : Nat) (x1 : Nat) (x2 : Int32) (x3 : Int32) (x4 : Int32) (x5 : Int32) (x6 : Int32) (y1 : Int32) (y0 : Int32) (h : AH) (Q : Option Value → AH → Prop), WP 2 139 [.ref x0, .ref x1, .int x2, .int x3, .int x4, .int x5, .int x6] ([.int y0, .int y1]) h Q ↔ WPM 140 [.int y1, .int y0] h (fun r h' => WP 2 142 [.ref x0, .ref x1, .int x2, .int x3, .int x4, .int x5, .int x6] (r.toList ++ []) h' Q)) ∧
  (∀ (x0 : Nat) (x1 : Nat) (x2 : Int32) (x3 : Int32) (x4 : Int32) (x5 : Int32) (x6 : Int32) (st : List Value) (h : AH) (Q : Option Value → AH → Prop), WP 2 142 [.ref x0, .ref x1, .int x2, .int x3, .int x4, .int x5, .int x6] (st) h Q ↔ WP 2 143 [.ref x0, .ref x1, .int x2, .int x3, .int x4, .int x5, .int x6] (.int (1) :: st) h Q) ∧
  (∀ (x0 : Nat) (x1 : Nat) (x2 : Int32) (x3 : Int32) (x4 : Int32) (x5 : Int32) (x6 : Int32) (y0 : Int32) (y1 : Int32) (st : List Value) (h : AH) (Q : Option Value → AH → Prop), WP 2 143 [.ref x0, .ref x1, .int x2, .int x3, .int x4, .int x5, .int x6] (.int y0 :: .int y1 :: st) h Q ↔ ((¬ y1 = y0 → WP 2 178 [.ref x0, .ref x1, .int x2, .int x3, .int x4, .int x5, .int x6] (st) h Q) ∧ (y1 = y0 → WP 2 146 [.ref x0, .ref x1, .int x2, .int x3, .int x4, .int x5, .int x6] (st) h Q))) ∧
  (∀ (x0 : Nat) (x1 : Nat) (x2 : Int32) (x3 : Int32) (x4 : Int32) (x5 : Int32) (x6 : Int32) (st : List Value) (h : AH) (Q : Option Value → AH → Prop), WP 2 146 [.ref x0, .ref x1, .int x2, .int x3, .int x4, .int x5, .int x6] (st) h Q ↔ WP 2 147 [.ref x0, .ref x1, .int x2, .int x3, .int x4, .int x5, .int x6] (.ref x0 :: st) h Q) ∧
  (∀ (x0 : Nat) (x1 : Nat) (x2 : Int32) (x3 : Int32) (x4 : Int32) (x5 : Int32) (x6 : Int32) (st : List Value) (h : AH) (Q : Option Value → AH → Prop), WP 2 147 [.ref x0, .ref x1, .int x2, .int x3, .int x4, .int x5, .int x6] (st) h Q ↔ WP 2 149 [.ref x0, .ref x1, .int x2, .int x3, .int x4, .int x5, .int x6] (.int x4 :: st) h Q) ∧
  (∀ (x0 : Nat) (x1 : Nat) (x2 : Int32) (x3 : Int32) (x4 : Int32) (x5 : Int32) (x6 : Int32) (st : List Value) (h : AH) (Q : Option Value → AH → Prop), WP 2 149 [.ref x0, .ref x1, .int x2, .int x3, .int x4, .int x5, .int x6] (st) h Q ↔ WP 2 151 [.ref x0, .ref x1, .int x2, .int x3, .int x4, .int x5, .int x6] (.int x6 :: st) h Q) ∧
  (∀ (x0 : Nat) (x1 : Nat) (x2 : Int32) (x3 : Int32) (x4 : Int32) (x5 : Int32) (x6 : Int32) (y2 : Nat) (y1 : Int32) (y0 : Int32) (h : AH) (Q : Option Value → AH → Prop), WP 2 151 [.ref x0, .ref x1, .int x2, .int x3, .int x4, .int x5, .int x6] ([.int y0, .int y1, .ref y2]) h Q ↔ WPM 1 [.int y1, .int y0] h (fun r h' => WP 2 154 [.ref x0, .ref x1, .int x2, .int x3, .int x4, .int x5, .int x6] (r.toList ++ [.ref y2]) h' Q)) :=
  ⟨fun _ _ _ _ _ _ _ _ => WP_s (show ct 2 75 = some (.iload_n 2, 0, []) by decide +kernel) rfl,
  fun _ _ _ _ _ _ _ _ => WP_s (show ct 2 76 = some (.iload 4, 0, []) by decide +kernel) rfl,
  fun _ _ _ _ _ _ _ _ => WP_s (show ct 2 78 = some (.iload_n 3, 0, []) by decide +kernel) rfl,
  fun _ _ _ _ _ _ _ _ _ _ _ _ _ _ _ => WC_0 (show ct 2 79 = some (.invokestatic 50, 3, [4, 4, 0, 0, 0, 792, 793, 0]) by decide +kernel) (Nat.le_of_ble_eq_true rfl) (Nat.le_of_ble_eq_true rfl) rfl rfl,
  fun _ _ _ _ _ _ _ _ _ _ => WP_s (show ct 2 82 = some (.ior, 0, []) by decide +kernel) rfl,
  fun _ _ _ _ _ _ _ _ => WP_s (show ct 2 83 = some (.iconst 0, 0, []) by decide +kernel) rfl,
  fun _ _ _ _ _ _ _ _ => WP_s (show ct 2 84 = some (.iconst 1, 0, []) by decide +kernel) rfl,
  fun _ _ _ _ _ _ _ _ => WP_s (show ct 2 85 = some (.iload 4, 0, []) by decide +kernel) rfl,
  fun _ _ _ _ _ _ _ _ _ _ => WP_s (show ct 2 87 = some (.ishl, 0, []) by decide +kernel) rfl,
  fun _ _ _ _ _ _ _ _ _ _ _ _ _ ht => WC_1 (show ct 2 88 = some (.invokevirtual 46, 3, [5, 6, 1, 1, 0, 788, 790, 19]) by decide +kernel) (Nat.le_of_ble_eq_true rfl) (Nat.le_of_ble_eq_true rfl) rfl rfl ht,
  fun _ _ _ _ _ _ _ _ => WP_s (show ct 2 91 = some (.iinc 4 1, 0, []) by decide +kernel) rfl,
  fun _ _ _ _ _ _ _ _ => WP_s (show ct 2 94 = some (.goto (-40), 0, [54]) by decide +kernel) rfl,
  fun _ _ _ _ _ _ _ _ => WP_s (show ct 2 97 = some (.iload_n 2, 0, []) by decide +kernel) rfl,
  fun _ _ _ _ _ _ _ _ => WP_s (show ct 2 98 = some (.iconst 1, 0, []) by decide +kernel) rfl,
  fun _ _ _ _ _ _ _ _ _ _ => WP_s (show ct 2 99 = some (.iand, 0, []) by decide +kernel) rfl,
  fun _ _ _ _ _ _ _ _ _ => WZ_ne (show ct 2 100 = some (.ifCond .ne 4, 0, [104]) by decide +kernel) (by decide),
  fun _ _ _ _ _ _ _ => WR_v (show ct 2 103 = some (.return_, 2, [0]) by decide +kernel),
  fun _ _ _ _ _ _ _ _ => WP_s (show ct 2 104 = some (.iconst 0, 0, []) by decide +kernel) rfl,
  fun _ _ _ _ _ _ _ _ _ => WP_s (show ct 2 105 = some (.istore 4, 0, []) by decide +kernel) rfl,
  fun _ _ _ _ _ _ _ _ _ _ => WP_s (show ct 2 109 = some (.aload_n 1, 0, []) by decide +kernel) rfl,
  fun _ _ _ _ _ _ _ _ _ _ _ ht => WH_gI (show ct 2 110 = some (.getfield 39, 1, [3, 0, 0, 135]) by decide +kernel) (by decide) ht,
  fun _ _ _ _ _ _ _ _ _ _ _ _ => WI_ge (show ct 2 113 = some (.if_icmp .ge 77, 0, [190]) by decide +kernel) (by decide),
  fun _ _ _ _ _ _ _ _ _ _ => WP_s (show ct 2 116 = some (.aload_n 1, 0, []) by decide +kernel) rfl,
  fun _ _ _ _ _ _ _ _ _ _ => WP_s (show ct 2 117 = some (.iload 4, 0, []) by decide +kernel) rfl,
  fun _ _ _ _ _ _ _ _ _ _ => WP_s (show ct 2 119 = some (.iload_n 3, 0, []) by decide +kernel) rfl,
  fun _ _ _ _ _ _ _ _ _ _ _ _ => WC_0 (show ct 2 120 = some (.invokestatic 42, 3, [3, 3, 0, 0, 0, 785, 786, 0]) by decide +kernel) (Nat.le_of_ble_eq_true rfl) (Nat.le_of_ble_eq_true rfl) rfl rfl,
  fun _ _ _ _ _ _ _ _ _ _ _ => WP_s (show ct 2 123 = some (.istore 5, 0, []) by decide +kernel) rfl,
  fun _ _ _ _ _ _ _ _ _ _ => WP_s (show ct 2 125 = some (.iconst 0, 0, []) by decide +kernel) rfl,
  fun _ _ _ _ _ _ _ _ _ _ _ => WP_s (show ct 2 126 = some (.istore 6, 0, []) by decide +kernel) rfl,
  fun _ _ _ _ _ _ _ _ _ _ => WP_s (show ct 2 130 = some (.iload 4, 0, []) by decide +kernel) rfl,
  fun _ _ _ _ _ _ _ _ _ _ _ _ => WI_ge (show ct 2 132 = some (.if_icmp .ge 52, 0, [184]) by decide +kernel) (by decide),
  fun _ _ _ _ _ _ _ _ _ _ => WP_s (show ct 2 135 = some (.iload 5, 0, []) by decide +kernel) rfl,
  fun _ _ _ _ _ _ _ _ _ _ => WP_s (show ct 2 137 = some (.iload 6, 0, []) by decide +kernel) rfl,
  fun _ _ _ _ _ _ _ _ _ _ _ => WC_0 (show ct 2 139 = some (.invokestatic 54, 3, [140, 2, 0, 0, 1, 795, 693, 0]) by decide +kernel) (Nat.le_of_ble_eq_true rfl) (Nat.le_of_ble_eq_true rfl) rfl rfl,
  fun _ _ _ _ _ _ _ _ _ _ => WP_s (show ct 2 142 = some (.iconst 1, 0, []) by decide +kernel) rfl,
  fun _ _ _ _ _ _ _ _ _ _ _ _ => WI_ne (show ct 2 143 = some (.if_icmp .ne 35, 0, [178]) by decide +kernel) (by decide),
  fun _ _ _ _ _ _ _ _ _ _ => WP_s (show ct 2 146 = some (.aload_n 0, 0, []) by decide +kernel) rfl,
  fun _ _ _ _ _ _ _ _ _ _ => WP_s (show ct 2 147 = some (.iload 4, 0, []) by decide +kernel) rfl,
  fun _ _ _ _ _ _ _ _ _ _ => WP_s (show ct 2 149 = some (.iload 6, 0, []) by decide +kernel) rfl,
  fun _ _ _ _ _ _ _ _ _ _ _ _ => WC_0 (show ct 2 151 = some (.invokestatic 58, 3, [1, 2, 0, 0, 0, 796, 797, 0]) by decide +kernel) (Nat.le_of_ble_eq_true rfl) (Nat.le_of_ble_eq_true rfl) rfl rfl⟩
set_option maxRecDepth 10000 in
theorem w2_c : (∀ (x0 : Nat) (x1 : Nat) (x2 : Int32) (x3 : Int32) (x4 : Int32) (x5 : Int32) (x6 : Int32) (st : List Value) (h : AH) (Q : Option Value → AH → Prop), WP 2 154 [.ref x0, .ref x1, .int x2, .int x3, .int x4, .int x5, .int x6] (st) h Q ↔ WP 2 156 [.ref x0, .ref x1, .int x2, .int x3, .int x4, .int x5, .int x6] (.int x4 :: st) h Q) ∧
  (∀ (x0 : Nat) (x1 : Nat) (x2 : Int32) (x3 : Int32) (x4 : Int32) (x5 : Int32) (x6 : Int32) (st : List Value) (h : AH) (Q : Option Value → AH → Prop), WP 2 156 [.ref x0, .ref x1, .int x2, .int x3, .int x4, .int x5, .int x6] (st) h Q ↔ WP 2 158 [.ref x0, .ref x1, .int x2, .int x3, .int x4, .int x5, .int x6] (.int x5 :: st) h Q) ∧
  (∀ (x0 : Nat) (x1 : Nat) (x2 : Int32) (x3 : Int32) (x4 : Int32) (x5 : Int32) (x6 : Int32) (st : List Value) (h : AH) (Q : Option Value → AH → Prop), WP 2 158 [.ref x0, .ref x1, .int x2, .int x3, .int x4, .int x5, .int x6] (st) h Q ↔ WP 2 159 [.ref x0, .ref x1, .int x2, .int x3, .int x4, .int x5, .int x6] (.ref x1 :: st) h Q) ∧
  (∀ (x0 : Nat) (x1 : Nat) (x2 : Int32) (x3 : Int32) (x4 : Int32) (x5 : Int32) (x6 : Int32) (st : List Value) (h : AH) (Q : Option Value → AH → Prop), WP 2 159 [.ref x0, .ref x1, .int x2, .int x3, .int x4, .int x5, .int x6] (st) h Q ↔ WP 2 160 [.ref x0, .ref x1, .int x2, .int x3, .int x4, .int x5, .int x6] (.int x2 :: st) h Q) ∧
  (∀ (x0 : Nat) (x1 : Nat) (x2 : Int32) (x3 : Int32) (x4 : Int32) (x5 : Int32) (x6 : Int32) (st : List Value) (h : AH) (Q : Option Value → AH → Prop), WP 2 160 [.ref x0, .ref x1, .int x2, .int x3, .int x4, .int x5, .int x6] (st) h Q ↔ WP 2 162 [.ref x0, .ref x1, .int x2, .int x3, .int x4, .int x5, .int x6] (.int x6 :: st) h Q) ∧
  (∀ (x0 : Nat) (x1 : Nat) (x2 : Int32) (x3 : Int32) (x4 : Int32) (x5 : Int32) (x6 : Int32) (st : List Value) (h : AH) (Q : Option Value → AH → Prop), WP 2 162 [.ref x0, .ref x1, .int x2, .int x3, .int x4, .int x5, .int x6] (st) h Q ↔ WP 2 163 [.ref x0, .ref x1, .int x2, .int x3, .int x4, .int x5, .int x6] (.int x3 :: st) h Q) ∧
  (∀ (x0 : Nat) (x1 : Nat) (x2 : Int32) (x3 : Int32) (x4 : Int32) (x5 : Int32) (x6 : Int32) (y7 : Nat) (y6 : Int32) (y5 : Int32) (y4 : Int32) (y3 : Nat) (y2 : Int32) (y1 : Int32) (y0 : Int32) (h : AH) (Q : Option Value → AH → Prop), WP 2 163 [.ref x0, .ref x1, .int x2, .int x3, .int x4, .int x5, .int x6] ([.int y0, .int y1, .int y2, .ref y3, .int y4, .int y5, .int y6, .ref y7]) h Q ↔ WPM 4 [.ref y3, .int y2, .int y1, .int y0] h (fun r h' => WP 2 166 [.ref x0, .ref x1, .int x2, .int x3, .int x4, .int x5, .int x6] (r.toList ++ [.int y4, .int y5, .int y6, .ref y7]) h' Q)) ∧
  (∀ (x0 : Nat) (x1 : Nat) (x2 : Int32) (x3 : Int32) (x4 : Int32) (x5 : Int32) (x6 : Int32) (y0 : Int32) (y1 : Int32) (st : List Value) (h : AH) (Q : Option Value → AH → Prop), WP 2 166 [.ref x0, .ref x1, .int x2, .int x3, .int x4, .int x5, .int x6] (.int y0 :: .int y1 :: st) h Q ↔ WP 2 167 [.ref x0, .ref x1, .int x2, .int x3, .int x4, .int x5, .int x6] (.int (y1 ||| y0) :: st) h Q) ∧
  (∀ (x0 : Nat) (x1 : Nat) (x2 : Int32) (x3 : Int32) (x4 : Int32) (x5 : Int32) (x6 : Int32) (st : List Value) (h : AH) (Q : Option Value → AH → Prop), WP 2 167 [.ref x0, .ref x1, .int x2, .int x3, .int x4, .int x5, .int x6] (st) h Q ↔ WP 2 168 [.ref x0, .ref x1, .int x2, .int x3, .int x4, .int x5, .int x6] (.int (1) :: st) h Q) ∧
  (∀ (x0 : Nat) (x1 : Nat) (x2 : Int32) (x3 : Int32) (x4 : Int32) (x5 : Int32) (x6 : Int32) (st : List Value) (h : AH) (Q : Option Value → AH → Prop), WP 2 168 [.ref x0, .ref x1, .int x2, .int x3, .int x4, .int x5, .int x6] (st) h Q ↔ WP 2 170 [.ref x0, .ref x1, .int x2, .int x3, .int x4, .int x5, .int x6] (.int x4 :: st) h Q) ∧
  (∀ (x0 : Nat) (x1 : Nat) (x2 : Int32) (x3 : Int32) (x4 : Int32) (x5 : Int32) (x6 : Int32) (y0 : Int32) (y1 : Int32) (st : List Value) (h : AH) (Q : Option Value → AH → Prop), WP 2 170 [.ref x0, .ref x1, .int x2, .int x3, .int x4, .int x5, .int x6] (.int y0 :: .int y1 :: st) h Q ↔ WP 2 171 [.ref x0, .ref x1, .int x2, .int x3, .int x4, .int x5, .int x6] (.int (y1 <<< (y0 &&& 31)) :: st) h Q) ∧
  (∀ (x0 : Nat) (x1 : Nat) (x2 : Int32) (x3 : Int32) (x4 : Int32) (x5 : Int32) (x6 : Int32) (st : List Value) (h : AH) (Q : Option Value → AH → Prop), WP 2 171 [.ref x0, .ref x1, .int x2, .int x3, .int x4, .int x5, .int x6] (st) h Q ↔ WP 2 172 [.ref x0, .ref x1, .int x2, .int x3, .int x4, .int x5, .int x6] (.int (1) :: st) h Q) ∧
  (∀ (x0 : Nat) (x1 : Nat) (x2 : Int32) (x3 : Int32) (x4 : Int32) (x5 : Int32) (x6 : Int32) (st : List Value) (h : AH) (Q : Option Value → AH → Prop), WP 2 172 [.ref x0, .ref x1, .int x2, .int x3, .int x4, .int x5, .int x6] (st) h Q ↔ WP 2 174 [.ref x0, .ref x1, .int x2, .int x3, .int x4, .int x5, .int x6] (.int x6 :: st) h Q) ∧
  (∀ (x0 : Nat) (x1 : Nat) (x2 : Int32) (x3 : Int32) (x4 : Int32) (x5 : Int32) (x6 : Int32) (y0 : Int32) (y1 : Int32) (st : List Value) (h : AH) (Q : Option Value → AH → Prop), WP 2 174 [.ref x0, .ref x1, .int x2, .int x3, .int x4, .int x5, .int x6] (.int y0 :: .int y1 :: st) h Q ↔ WP 2 175 [.ref x0, .ref x1, .int x2, .int x3, .int x4, .int x5, .int x6] (.int (y1 <<< (y0 &&& 31)) :: st) h Q) ∧
  (∀ (x0 : Nat) (x1 : Nat) (x2 : Int32) (x3 : Int32) (x4 : Int32) (x5 : Int32) (x6 : Int32) (y5 : Nat) (y4 : Int32) (y3 : Int32) (y2 : Int32) (y1 : Int32) (y0 : Int32) (h : AH) (Q : Option Value → AH → Prop) (ht : hT h y5 = 1), WP 2 175 [.ref x0, .ref x1, .int x2, .int x3, .int x4, .int x5, .int x6] ([.int y0, .int y1, .int y2, .int y3, .int y4, .ref y5]) h Q ↔ WPM 5 [.ref y5, .int y4, .int y3, .int y2, .int y1, .int y0] h (fun r h' => WP 2 178 [.ref x0, .ref x1, .int x2, .int x3, .int x4, .int x5, .int x6] (r.toList ++ []) h' Q)) ∧
  (∀ (x0 : Nat) (x1 : Nat) (x2 : Int32) (x3 : Int32) (x4 : Int32) (x5 : Int32) (x6 : Int32) (st : List Value) (h : AH) (Q : Option Value → AH → Prop), WP 2 178 [.ref x0, .ref x1, .int x2, .int x3, .int x4, .int x5, .int x6] (st) h Q ↔ WP 2 181 [.ref x0, .ref x1, .int x2, .int x3, .int x4, .int x5, .int (x6 + (1))] (st) h Q) ∧
  (∀ (x0 : Nat) (x1 : Nat) (x2 : Int32) (x3 : Int32) (x4 : Int32) (x5 : Int32) (x6 : Int32) (st : List Value) (h : AH) (Q : Option Value → AH → Prop), WP 2 181 [.ref x0, .ref x1, .int x2, .int x3, .int x4, .int x5, .int x6] (st) h Q ↔ WP 2 128 [.ref x0, .ref x1, .int x2, .int x3, .int x4, .int x5, .int x6] (st) h Q) ∧
  (∀ (x0 : Nat) (x1 : Nat) (x2 : Int32) (x3 : Int32) (x4 : Int32) (x5 : Int32) (x6 : Int32) (st : List Value) (h : AH) (Q : Option Value → AH → Prop), WP 2 184 [.ref x0, .ref x1, .int x2, .int x3, .int x4, .int x5, .int x6] (st) h Q ↔ WP 2 187 [.ref x0, .ref x1, .int x2, .int x3, .int (x4 + (1)), .int x5, .int x6] (st) h Q) ∧
  (∀ (x0 : Nat) (x1 : Nat) (x2 : Int32) (x3 : Int32) (x4 : Int32) (x5 : Int32) (x6 : Int32) (st : List Value) (h : AH) (Q : Option Value → AH → Prop), WP 2 187 [.ref x0, .ref x1, .int x2, .int x3, .int x4, .int x5, .int x6] (st) h Q ↔ WP 2 107 [.ref x0, .ref x1, .int x2, .int x3, .int x4, .int x5, .int x6] (st) h Q) ∧
  (∀ (x0 : Nat) (x1 : Nat) (x2 : Int32) (x3 : Int32) (x4 : Int32) (x5 : Value) (x6 : Value) (h : AH) (Q : Option Value → AH → Prop), WP 2 190 [.ref x0, .ref x1, .int x2, .int x3, .int x4, x5, x6] ([]) h Q ↔ Q none h) :=
  ⟨fun _ _ _ _ _ _ _ _ _ _ => WP_s (show ct 2 154 = some (.iload 4, 0, []) by decide +kernel) rfl,
  fun _ _ _ _ _ _ _ _ _ _ => WP_s (show ct 2 156 = some (.iload 5, 0, []) by decide +kernel) rfl,
  fun _ _ _ _ _ _ _ _ _ _ => WP_s (show ct 2 158 = some (.aload_n 1, 0, []) by decide +kernel) rfl,
  fun _ _ _ _ _ _ _ _ _ _ => WP_s (show ct 2 159 = some (.iload_n 2, 0, []) by decide +kernel) rfl,
  fun _ _ _ _ _ _ _ _ _ _ => WP_s (show ct 2 160 = some (.iload 6, 0, []) by decide +kernel) rfl,
  fun _ _ _ _ _ _ _ _ _ _ => WP_s (show ct 2 162 = some (.iload_n 3, 0, []) by decide +kernel) rfl,
  fun _ _ _ _ _ _ _ _ _ _ _ _ _ _ _ _ _ => WC_0 (show ct 2 163 = some (.invokestatic 50, 3, [4, 4, 0, 0, 0, 792, 793, 0]) by decide +kernel) (Nat.le_of_ble_eq_true rfl) (Nat.le_of_ble_eq_true rfl) rfl rfl,
  fun _ _ _ _ _ _ _ _ _ _ _ _ => WP_s (show ct 2 166 = some (.ior, 0, []) by decide +kernel) rfl,
  fun _ _ _ _ _ _ _ _ _ _ => WP_s (show ct 2 167 = some (.iconst 1, 0, []) by decide +kernel) rfl,
  fun _ _ _ _ _ _ _ _ _ _ => WP_s (show ct 2 168 = some (.iload 4, 0, []) by decide +kernel) rfl,
  fun _ _ _ _ _ _ _ _ _ _ _ _ => WP_s (show ct 2 170 = some (.ishl, 0, []) by decide +kernel) rfl,
  fun _ _ _ _ _ _ _ _ _ _ => WP_s (show ct 2 171 = some (.iconst 1, 0, []) by decide +kernel) rfl,
  fun _ _ _ _ _ _ _ _ _ _ => WP_s (show ct 2 172 = some (.iload 6, 0, []) by decide +kernel) rfl,
  fun _ _ _ _ _ _ _ _ _ _ _ _ => WP_s (show ct 2 174 = some (.ishl, 0, []) by decide +kernel) rfl,
  fun _ _ _ _ _ _ _ _ _ _ _ _ _ _ _ ht => WC_1 (show ct 2 175 = some (.invokevirtual 46, 3, [5, 6, 1, 1, 0, 788, 790, 19]) by decide +kernel) (Nat.le_of_ble_eq_true rfl) (Nat.le_of_ble_eq_true rfl) rfl rfl ht,
  fun _ _ _ _ _ _ _ _ _ _ => WP_s (show ct 2 178 = some (.iinc 6 1, 0, []) by decide +kernel) rfl,
  fun _ _ _ _ _ _ _ _ _ _ => WP_s (show ct 2 181 = some (.goto (-53), 0, [128]) by decide +kernel) rfl,
  fun _ _ _ _ _ _ _ _ _ _ => WP_s (show ct 2 184 = some (.iinc 4 1, 0, []) by decide +kernel) rfl,
  fun _ _ _ _ _ _ _ _ _ _ => WP_s (show ct 2 187 = some (.goto (-80), 0, [107]) by decide +kernel) rfl,
  fun _ _ _ _ _ _ _ _ _ => WR_v (show ct 2 190 = some (.return_, 2, [0]) by decide +kernel)⟩
/-- all of 2 -/
def w2_n : Nat := 3
/-! 3: FewBowls$Acts.partsOf(LFewBowls$Net;II)I; loop heads [] -/
set_option maxRecDepth 10000 in
theorem w3 : (∀ (x0 : Nat) (x1 : Int32) (x2 : Int32) (st : List Value) (h : AH) (Q : Option Value → AH → Prop), WP 3 0 [.ref x0, .int x1, .int x2] (st) h Q ↔ WP 3 1 [.ref x0, .int x1, .int x2] (.int x1 :: st) h Q) ∧
  (∀ (x0 : Nat) (x1 : Int32) (x2 : Int32) (st : List Value) (h : AH) (Q : Option Value → AH → Prop), WP 3 1 [.ref x0, .int x1, .int x2] (st) h Q ↔ WP 3 2 [.ref x0, .int x1, .int x2] (.int x2 :: st) h Q) ∧
  (∀ (x0 : Nat) (x1 : Int32) (x2 : Int32) (y0 : Int32) (y1 : Int32) (st : List Value) (h : AH) (Q : Option Value → AH → Prop), WP 3 2 [.ref x0, .int x1, .int x2] (.int y0 :: .int y1 :: st) h Q ↔ ((¬ y1 = y0 → WP 3 9 [.ref x0, .int x1, .int x2] (st) h Q) ∧ (y1 = y0 → WP 3 5 [.ref x0, .int x1, .int x2] (st) h Q))) ∧
  (∀ (x0 : Nat) (x1 : Int32) (x2 : Int32) (st : List Value) (h : AH) (Q : Option Value → AH → Prop), WP 3 5 [.ref x0, .int x1, .int x2] (st) h Q ↔ WP 3 6 [.ref x0, .int x1, .int x2] (.int (0) :: st) h Q) ∧
  (∀ (x0 : Nat) (x1 : Int32) (x2 : Int32) (st : List Value) (h : AH) (Q : Option Value → AH → Prop), WP 3 6 [.ref x0, .int x1, .int x2] (st) h Q ↔ WP 3 15 [.ref x0, .int x1, .int x2] (st) h Q) ∧
  (∀ (x0 : Nat) (x1 : Int32) (x2 : Int32) (st : List Value) (h : AH) (Q : Option Value → AH → Prop), WP 3 9 [.ref x0, .int x1, .int x2] (st) h Q ↔ WP 3 10 [.ref x0, .int x1, .int x2] (.ref x0 :: st) h Q) ∧
  (∀ (x0 : Nat) (x1 : Int32) (x2 : Int32) (y0 : Nat) (st : List Value) (h : AH) (Q : Option Value → AH → Prop) (ht : hT h y0 = 4), WP 3 10 [.ref x0, .int x1, .int x2] (.ref y0 :: st) h Q ↔ WP 3 13 [.ref x0, .int x1, .int x2] (.ref (hR h y0 6) :: st) h Q) ∧
  (∀ (x0 : Nat) (x1 : Int32) (x2 : Int32) (st : List Value) (h : AH) (Q : Option Value → AH → Prop), WP 3 13 [.ref x0, .int x1, .int x2] (st) h Q ↔ WP 3 14 [.ref x0, .int x1, .int x2] (.int x1 :: st) h Q) ∧
  (∀ (x0 : Nat) (x1 : Int32) (x2 : Int32) (y0 : Int32) (y1 : Nat) (st : List Value) (h : AH) (Q : Option Value → AH → Prop) (ht : hT h y1 = 100 ∨ hT h y1 = 110) (hi : inb y0 (hL h y1) = true), WP 3 14 [.ref x0, .int x1, .int x2] (.int y0 :: .ref y1 :: st) h Q ↔ WP 3 15 [.ref x0, .int x1, .int x2] (.int (hI h y1 y0.toNatClampNeg) :: st) h Q) ∧
  (∀ (x0 : Nat) (x1 : Int32) (x2 : Int32) (y0 : Int32) (h : AH) (Q : Option Value → AH → Prop), WP 3 15 [.ref x0, .int x1, .int x2] ([.int y0]) h Q ↔ Q (some (.int y0)) h) :=
  ⟨fun _ _ _ _ _ _ => WP_s (show ct 3 0 = some (.iload_n 1, 0, []) by decide +kernel) rfl,
  fun _ _ _ _ _ _ => WP_s (show ct 3 1 = some (.iload_n 2, 0, []) by decide +kernel) rfl,
  fun _ _ _ _ _ _ _ _ => WI_ne (show ct 3 2 = some (.if_icmp .ne 7, 0, [9]) by decide +kernel) (by decide),
  fun _ _ _ _ _ _ => WP_s (show ct 3 5 = some (.iconst 0, 0, []) by decide +kernel) rfl,
  fun _ _ _ _ _ _ => WP_s (show ct 3 6 = some (.goto 9, 0, [15]) by decide +kernel) rfl,
  fun _ _ _ _ _ _ => WP_s (show ct 3 9 = some (.aload_n 0, 0, []) by decide +kernel) rfl,
  fun _ _ _ _ _ _ _ ht => WH_gR (show ct 3 10 = some (.getfield 61, 1, [3, 6, 2, 163]) by decide +kernel) ht,
  fun _ _ _ _ _ _ => WP_s (show ct 3 13 = some (.iload_n 1, 0, []) by decide +kernel) rfl,
  fun _ _ _ _ _ _ _ _ ht hi => WH_iald (show ct 3 14 = some (.iaload, 1, []) by decide +kernel) ht hi,
  fun _ _ _ _ _ _ => WR_i (show ct 3 15 = some (.ireturn, 2, [0]) by decide +kernel)⟩
/-! 4: FewBowls$Acts.toWash(LFewBowls$Net;III)I; loop heads [] -/
set_option maxRecDepth 10000 in
theorem w4 : (∀ (x0 : Nat) (x1 : Int32) (x2 : Int32) (x3 : Int32) (st : List Value) (h : AH) (Q : Option Value → AH → Prop), WP 4 0 [.ref x0, .int x1, .int x2, .int x3] (st) h Q ↔ WP 4 1 [.ref x0, .int x1, .int x2, .int x3] (.int x1 :: st) h Q) ∧
  (∀ (x0 : Nat) (x1 : Int32) (x2 : Int32) (x3 : Int32) (st : List Value) (h : AH) (Q : Option Value → AH → Prop), WP 4 1 [.ref x0, .int x1, .int x2, .int x3] (st) h Q ↔ WP 4 2 [.ref x0, .int x1, .int x2, .int x3] (.int (2) :: st) h Q) ∧
  (∀ (x0 : Nat) (x1 : Int32) (x2 : Int32) (x3 : Int32) (y0 : Int32) (y1 : Int32) (st : List Value) (h : AH) (Q : Option Value → AH → Prop), WP 4 2 [.ref x0, .int x1, .int x2, .int x3] (.int y0 :: .int y1 :: st) h Q ↔ WP 4 3 [.ref x0, .int x1, .int x2, .int x3] (.int (y1 &&& y0) :: st) h Q) ∧
  (∀ (x0 : Nat) (x1 : Int32) (x2 : Int32) (x3 : Int32) (y0 : Int32) (st : List Value) (h : AH) (Q : Option Value → AH → Prop), WP 4 3 [.ref x0, .int x1, .int x2, .int x3] (.int y0 :: st) h Q ↔ ((y0 = 0 → WP 4 15 [.ref x0, .int x1, .int x2, .int x3] (st) h Q) ∧ (¬ y0 = 0 → WP 4 6 [.ref x0, .int x1, .int x2, .int x3] (st) h Q))) ∧
  (∀ (x0 : Nat) (x1 : Int32) (x2 : Int32) (x3 : Int32) (st : List Value) (h : AH) (Q : Option Value → AH → Prop), WP 4 6 [.ref x0, .int x1, .int x2, .int x3] (st) h Q ↔ WP 4 7 [.ref x0, .int x1, .int x2, .int x3] (.ref x0 :: st) h Q) ∧
  (∀ (x0 : Nat) (x1 : Int32) (x2 : Int32) (x3 : Int32) (st : List Value) (h : AH) (Q : Option Value → AH → Prop), WP 4 7 [.ref x0, .int x1, .int x2, .int x3] (st) h Q ↔ WP 4 8 [.ref x0, .int x1, .int x2, .int x3] (.int x2 :: st) h Q) ∧
  (∀ (x0 : Nat) (x1 : Int32) (x2 : Int32) (x3 : Int32) (st : List Value) (h : AH) (Q : Option Value → AH → Prop), WP 4 8 [.ref x0, .int x1, .int x2, .int x3] (st) h Q ↔ WP 4 9 [.ref x0, .int x1, .int x2, .int x3] (.int x3 :: st) h Q) ∧
  (∀ (x0 : Nat) (x1 : Int32) (x2 : Int32) (x3 : Int32) (y2 : Nat) (y1 : Int32) (y0 : Int32) (h : AH) (Q : Option Value → AH → Prop), WP 4 9 [.ref x0, .int x1, .int x2, .int x3] ([.int y0, .int y1, .ref y2]) h Q ↔ WPM 3 [.ref y2, .int y1, .int y0] h (fun r h' => WP 4 12 [.ref x0, .int x1, .int x2, .int x3] (r.toList ++ []) h' Q)) ∧
  (∀ (x0 : Nat) (x1 : Int32) (x2 : Int32) (x3 : Int32) (st : List Value) (h : AH) (Q : Option Value → AH → Prop), WP 4 12 [.ref x0, .int x1, .int x2, .int x3] (st) h Q ↔ WP 4 16 [.ref x0, .int x1, .int x2, .int x3] (st) h Q) ∧
  (∀ (x0 : Nat) (x1 : Int32) (x2 : Int32) (x3 : Int32) (st : List Value) (h : AH) (Q : Option Value → AH → Prop), WP 4 15 [.ref x0, .int x1, .int x2, .int x3] (st) h Q ↔ WP 4 16 [.ref x0, .int x1, .int x2, .int x3] (.int (0) :: st) h Q) ∧
  (∀ (x0 : Nat) (x1 : Int32) (x2 : Int32) (x3 : Int32) (y0 : Int32) (h : AH) (Q : Option Value → AH → Prop), WP 4 16 [.ref x0, .int x1, .int x2, .int x3] ([.int y0]) h Q ↔ Q (some (.int y0)) h) :=
  ⟨fun _ _ _ _ _ _ _ => WP_s (show ct 4 0 = some (.iload_n 1, 0, []) by decide +kernel) rfl,
  fun _ _ _ _ _ _ _ => WP_s (show ct 4 1 = some (.iconst 2, 0, []) by decide +kernel) rfl,
  fun _ _ _ _ _ _ _ _ _ => WP_s (show ct 4 2 = some (.iand, 0, []) by decide +kernel) rfl,
  fun _ _ _ _ _ _ _ _ => WZ_eq (show ct 4 3 = some (.ifCond .eq 12, 0, [15]) by decide +kernel) (by decide),
  fun _ _ _ _ _ _ _ => WP_s (show ct 4 6 = some (.aload_n 0, 0, []) by decide +kernel) rfl,
  fun _ _ _ _ _ _ _ => WP_s (show ct 4 7 = some (.iload_n 2, 0, []) by decide +kernel) rfl,
  fun _ _ _ _ _ _ _ => WP_s (show ct 4 8 = some (.iload_n 3, 0, []) by decide +kernel) rfl,
  fun _ _ _ _ _ _ _ _ _ => WC_0 (show ct 4 9 = some (.invokestatic 42, 3, [3, 3, 0, 0, 0, 785, 786, 0]) by decide +kernel) (Nat.le_of_ble_eq_true rfl) (Nat.le_of_ble_eq_true rfl) rfl rfl,
  fun _ _ _ _ _ _ _ => WP_s (show ct 4 12 = some (.goto 4, 0, [16]) by decide +kernel) rfl,
  fun _ _ _ _ _ _ _ => WP_s (show ct 4 15 = some (.iconst 0, 0, []) by decide +kernel) rfl,
  fun _ _ _ _ _ _ _ => WR_i (show ct 4 16 = some (.ireturn, 2, [0]) by decide +kernel)⟩
/-! 5: FewBowls$Acts.enter(IIIII)V; loop heads [] -/
set_option maxRecDepth 10000 in
theorem w5_a : (∀ (x0 : Nat) (x1 : Int32) (x2 : Int32) (x3 : Int32) (x4 : Int32) (x5 : Int32) (st : List Value) (h : AH) (Q : Option Value → AH → Prop), WP 5 0 [.ref x0, .int x1, .int x2, .int x3, .int x4, .int x5] (st) h Q ↔ WP 5 1 [.ref x0, .int x1, .int x2, .int x3, .int x4, .int x5] (.ref x0 :: st) h Q) ∧
  (∀ (x0 : Nat) (x1 : Int32) (x2 : Int32) (x3 : Int32) (x4 : Int32) (x5 : Int32) (y0 : Nat) (st : List Value) (h : AH) (Q : Option Value → AH → Prop) (ht : hT h y0 = 1), WP 5 1 [.ref x0, .int x1, .int x2, .int x3, .int x4, .int x5] (.ref y0 :: st) h Q ↔ WP 5 4 [.ref x0, .int x1, .int x2, .int x3, .int x4, .int x5] (.int (hI h y0 0) :: st) h Q) ∧
  (∀ (x0 : Nat) (x1 : Int32) (x2 : Int32) (x3 : Int32) (x4 : Int32) (x5 : Int32) (st : List Value) (h : AH) (Q : Option Value → AH → Prop), WP 5 4 [.ref x0, .int x1, .int x2, .int x3, .int x4, .int x5] (st) h Q ↔ WP 5 6 [.ref x0, .int x1, .int x2, .int x3, .int x4, .int x5] (.int (112) :: st) h Q) ∧
  (∀ (x0 : Nat) (x1 : Int32) (x2 : Int32) (x3 : Int32) (x4 : Int32) (x5 : Int32) (y0 : Int32) (y1 : Int32) (st : List Value) (h : AH) (Q : Option Value → AH → Prop), WP 5 6 [.ref x0, .int x1, .int x2, .int x3, .int x4, .int x5] (.int y0 :: .int y1 :: st) h Q ↔ ((y1 < y0 → WP 5 10 [.ref x0, .int x1, .int x2, .int x3, .int x4, .int x5] (st) h Q) ∧ (¬ y1 < y0 → WP 5 9 [.ref x0, .int x1, .int x2, .int x3, .int x4, .int x5] (st) h Q))) ∧
  (∀ (x0 : Nat) (x1 : Int32) (x2 : Int32) (x3 : Int32) (x4 : Int32) (x5 : Int32) (h : AH) (Q : Option Value → AH → Prop), WP 5 9 [.ref x0, .int x1, .int x2, .int x3, .int x4, .int x5] ([]) h Q ↔ Q none h) ∧
  (∀ (x0 : Nat) (x1 : Int32) (x2 : Int32) (x3 : Int32) (x4 : Int32) (x5 : Int32) (st : List Value) (h : AH) (Q : Option Value → AH → Prop), WP 5 10 [.ref x0, .int x1, .int x2, .int x3, .int x4, .int x5] (st) h Q ↔ WP 5 11 [.ref x0, .int x1, .int x2, .int x3, .int x4, .int x5] (.ref x0 :: st) h Q) ∧
  (∀ (x0 : Nat) (x1 : Int32) (x2 : Int32) (x3 : Int32) (x4 : Int32) (x5 : Int32) (y0 : Nat) (st : List Value) (h : AH) (Q : Option Value → AH → Prop) (ht : hT h y0 = 1), WP 5 11 [.ref x0, .int x1, .int x2, .int x3, .int x4, .int x5] (.ref y0 :: st) h Q ↔ WP 5 14 [.ref x0, .int x1, .int x2, .int x3, .int x4, .int x5] (.ref (hR h y0 2) :: st) h Q) ∧
  (∀ (x0 : Nat) (x1 : Int32) (x2 : Int32) (x3 : Int32) (x4 : Int32) (x5 : Int32) (st : List Value) (h : AH) (Q : Option Value → AH → Prop), WP 5 14 [.ref x0, .int x1, .int x2, .int x3, .int x4, .int x5] (st) h Q ↔ WP 5 15 [.ref x0, .int x1, .int x2, .int x3, .int x4, .int x5] (.ref x0 :: st) h Q) ∧
  (∀ (x0 : Nat) (x1 : Int32) (x2 : Int32) (x3 : Int32) (x4 : Int32) (x5 : Int32) (y0 : Nat) (st : List Value) (h : AH) (Q : Option Value → AH → Prop) (ht : hT h y0 = 1), WP 5 15 [.ref x0, .int x1, .int x2, .int x3, .int x4, .int x5] (.ref y0 :: st) h Q ↔ WP 5 18 [.ref x0, .int x1, .int x2, .int x3, .int x4, .int x5] (.int (hI h y0 0) :: st) h Q) ∧
  (∀ (x0 : Nat) (x1 : Int32) (x2 : Int32) (x3 : Int32) (x4 : Int32) (x5 : Int32) (st : List Value) (h : AH) (Q : Option Value → AH → Prop), WP 5 18 [.ref x0, .int x1, .int x2, .int x3, .int x4, .int x5] (st) h Q ↔ WP 5 19 [.ref x0, .int x1, .int x2, .int x3, .int x4, .int x5] (.int x1 :: st) h Q) ∧
  (∀ (x0 : Nat) (x1 : Int32) (x2 : Int32) (x3 : Int32) (x4 : Int32) (x5 : Int32) (y0 : Int32) (y1 : Int32) (y2 : Nat) (st : List Value) (h : AH) (Q : Option Value → AH → Prop) (ht : hT h y2 = 100) (hi : inb y1 (hL h y2) = true), WP 5 19 [.ref x0, .int x1, .int x2, .int x3, .int x4, .int x5] (.int y0 :: .int y1 :: .ref y2 :: st) h Q ↔ WP 5 20 [.ref x0, .int x1, .int x2, .int x3, .int x4, .int x5] (st) (sI h y2 y1.toNatClampNeg y0) Q) ∧
  (∀ (x0 : Nat) (x1 : Int32) (x2 : Int32) (x3 : Int32) (x4 : Int32) (x5 : Int32) (st : List Value) (h : AH) (Q : Option Value → AH → Prop), WP 5 20 [.ref x0, .int x1, .int x2, .int x3, .int x4, .int x5] (st) h Q ↔ WP 5 21 [.ref x0, .int x1, .int x2, .int x3, .int x4, .int x5] (.ref x0 :: st) h Q) ∧
  (∀ (x0 : Nat) (x1 : Int32) (x2 : Int32) (x3 : Int32) (x4 : Int32) (x5 : Int32) (y0 : Nat) (st : List Value) (h : AH) (Q : Option Value → AH → Prop) (ht : hT h y0 = 1), WP 5 21 [.ref x0, .int x1, .int x2, .int x3, .int x4, .int x5] (.ref y0 :: st) h Q ↔ WP 5 24 [.ref x0, .int x1, .int x2, .int x3, .int x4, .int x5] (.ref (hR h y0 3) :: st) h Q) ∧
  (∀ (x0 : Nat) (x1 : Int32) (x2 : Int32) (x3 : Int32) (x4 : Int32) (x5 : Int32) (st : List Value) (h : AH) (Q : Option Value → AH → Prop), WP 5 24 [.ref x0, .int x1, .int x2, .int x3, .int x4, .int x5] (st) h Q ↔ WP 5 25 [.ref x0, .int x1, .int x2, .int x3, .int x4, .int x5] (.ref x0 :: st) h Q) ∧
  (∀ (x0 : Nat) (x1 : Int32) (x2 : Int32) (x3 : Int32) (x4 : Int32) (x5 : Int32) (y0 : Nat) (st : List Value) (h : AH) (Q : Option Value → AH → Prop) (ht : hT h y0 = 1), WP 5 25 [.ref x0, .int x1, .int x2, .int x3, .int x4, .int x5] (.ref y0 :: st) h Q ↔ WP 5 28 [.ref x0, .int x1, .int x2, .int x3, .int x4, .int x5] (.int (hI h y0 0) :: st) h Q) ∧
  (∀ (x0 : Nat) (x1 : Int32) (x2 : Int32) (x3 : Int32) (x4 : Int32) (x5 : Int32) (st : List Value) (h : AH) (Q : Option Value → AH → Prop), WP 5 28 [.ref x0, .int x1, .int x2, .int x3, .int x4, .int x5] (st) h Q ↔ WP 5 29 [.ref x0, .int x1, .int x2, .int x3, .int x4, .int x5] (.int x2 :: st) h Q) ∧
  (∀ (x0 : Nat) (x1 : Int32) (x2 : Int32) (x3 : Int32) (x4 : Int32) (x5 : Int32) (y0 : Int32) (y1 : Int32) (y2 : Nat) (st : List Value) (h : AH) (Q : Option Value → AH → Prop) (ht : hT h y2 = 100) (hi : inb y1 (hL h y2) = true), WP 5 29 [.ref x0, .int x1, .int x2, .int x3, .int x4, .int x5] (.int y0 :: .int y1 :: .ref y2 :: st) h Q ↔ WP 5 30 [.ref x0, .int x1, .int x2, .int x3, .int x4, .int x5] (st) (sI h y2 y1.toNatClampNeg y0) Q) ∧
  (∀ (x0 : Nat) (x1 : Int32) (x2 : Int32) (x3 : Int32) (x4 : Int32) (x5 : Int32) (st : List Value) (h : AH) (Q : Option Value → AH → Prop), WP 5 30 [.ref x0, .int x1, .int x2, .int x3, .int x4, .int x5] (st) h Q ↔ WP 5 31 [.ref x0, .int x1, .int x2, .int x3, .int x4, .int x5] (.ref x0 :: st) h Q) ∧
  (∀ (x0 : Nat) (x1 : Int32) (x2 : Int32) (x3 : Int32) (x4 : Int32) (x5 : Int32) (y0 : Nat) (st : List Value) (h : AH) (Q : Option Value → AH → Prop) (ht : hT h y0 = 1), WP 5 31 [.ref x0, .int x1, .int x2, .int x3, .int x4, .int x5] (.ref y0 :: st) h Q ↔ WP 5 34 [.ref x0, .int x1, .int x2, .int x3, .int x4, .int x5] (.ref (hR h y0 4) :: st) h Q) ∧
  (∀ (x0 : Nat) (x1 : Int32) (x2 : Int32) (x3 : Int32) (x4 : Int32) (x5 : Int32) (st : List Value) (h : AH) (Q : Option Value → AH → Prop), WP 5 34 [.ref x0, .int x1, .int x2, .int x3, .int x4, .int x5] (st) h Q ↔ WP 5 35 [.ref x0, .int x1, .int x2, .int x3, .int x4, .int x5] (.ref x0 :: st) h Q) ∧
  (∀ (x0 : Nat) (x1 : Int32) (x2 : Int32) (x3 : Int32) (x4 : Int32) (x5 : Int32) (y0 : Nat) (st : List Value) (h : AH) (Q : Option Value → AH → Prop) (ht : hT h y0 = 1), WP 5 35 [.ref x0, .int x1, .int x2, .int x3, .int x4, .int x5] (.ref y0 :: st) h Q ↔ WP 5 38 [.ref x0, .int x1, .int x2, .int x3, .int x4, .int x5] (.int (hI h y0 0) :: st) h Q) ∧
  (∀ (x0 : Nat) (x1 : Int32) (x2 : Int32) (x3 : Int32) (x4 : Int32) (x5 : Int32) (st : List Value) (h : AH) (Q : Option Value → AH → Prop), WP 5 38 [.ref x0, .int x1, .int x2, .int x3, .int x4, .int x5] (st) h Q ↔ WP 5 39 [.ref x0, .int x1, .int x2, .int x3, .int x4, .int x5] (.int x3 :: st) h Q) ∧
  (∀ (x0 : Nat) (x1 : Int32) (x2 : Int32) (x3 : Int32) (x4 : Int32) (x5 : Int32) (y0 : Int32) (y1 : Int32) (y2 : Nat) (st : List Value) (h : AH) (Q : Option Value → AH → Prop) (ht : hT h y2 = 100) (hi : inb y1 (hL h y2) = true), WP 5 39 [.ref x0, .int x1, .int x2, .int x3, .int x4, .int x5] (.int y0 :: .int y1 :: .ref y2 :: st) h Q ↔ WP 5 40 [.ref x0, .int x1, .int x2, .int x3, .int x4, .int x5] (st) (sI h y2 y1.toNatClampNeg y0) Q) ∧
  (∀ (x0 : Nat) (x1 : Int32) (x2 : Int32) (x3 : Int32) (x4 : Int32) (x5 : Int32) (st : List Value) (h : AH) (Q : Option Value → AH → Prop), WP 5 40 [.ref x0, .int x1, .int x2, .int x3, .int x4, .int x5] (st) h Q ↔ WP 5 41 [.ref x0, .int x1, .int x2, .int x3, .int x4, .int x5] (.ref x0 :: st) h Q) ∧
  (∀ (x0 : Nat) (x1 : Int32) (x2 : Int32) (x3 : Int32) (x4 : Int32) (x5 : Int32) (y0 : Nat) (st : List Value) (h : AH) (Q : Option Value → AH → Prop) (ht : hT h y0 = 1), WP 5 41 [.ref x0, .int x1, .int x2, .int x3, .int x4, .int x5] (.ref y0 :: st) h Q ↔ WP 5 44 [.ref x0, .int x1, .int x2, .int x3, .int x4, .int x5] (.ref (hR h y0 5) :: st) h Q) ∧
  (∀ (x0 : Nat) (x1 : Int32) (x2 : Int32) (x3 : Int32) (x4 : Int32) (x5 : Int32) (st : List Value) (h : AH) (Q : Option Value → AH → Prop), WP 5 44 [.ref x0, .int x1, .int x2, .int x3, .int x4, .int x5] (st) h Q ↔ WP 5 45 [.ref x0, .int x1, .int x2, .int x3, .int x4, .int x5] (.ref x0 :: st) h Q) ∧
  (∀ (x0 : Nat) (x1 : Int32) (x2 : Int32) (x3 : Int32) (x4 : Int32) (x5 : Int32) (y0 : Nat) (st : List Value) (h : AH) (Q : Option Value → AH → Prop) (ht : hT h y0 = 1), WP 5 45 [.ref x0, .int x1, .int x2, .int x3, .int x4, .int x5] (.ref y0 :: st) h Q ↔ WP 5 48 [.ref x0, .int x1, .int x2, .int x3, .int x4, .int x5] (.int (hI h y0 0) :: st) h Q) ∧
  (∀ (x0 : Nat) (x1 : Int32) (x2 : Int32) (x3 : Int32) (x4 : Int32) (x5 : Int32) (st : List Value) (h : AH) (Q : Option Value → AH → Prop), WP 5 48 [.ref x0, .int x1, .int x2, .int x3, .int x4, .int x5] (st) h Q ↔ WP 5 50 [.ref x0, .int x1, .int x2, .int x3, .int x4, .int x5] (.int x4 :: st) h Q) ∧
  (∀ (x0 : Nat) (x1 : Int32) (x2 : Int32) (x3 : Int32) (x4 : Int32) (x5 : Int32) (y0 : Int32) (y1 : Int32) (y2 : Nat) (st : List Value) (h : AH) (Q : Option Value → AH → Prop) (ht : hT h y2 = 100) (hi : inb y1 (hL h y2) = true), WP 5 50 [.ref x0, .int x1, .int x2, .int x3, .int x4, .int x5] (.int y0 :: .int y1 :: .ref y2 :: st) h Q ↔ WP 5 51 [.ref x0, .int x1, .int x2, .int x3, .int x4, .int x5] (st) (sI h y2 y1.toNatClampNeg y0) Q) ∧
  (∀ (x0 : Nat) (x1 : Int32) (x2 : Int32) (x3 : Int32) (x4 : Int32) (x5 : Int32) (st : List Value) (h : AH) (Q : Option Value → AH → Prop), WP 5 51 [.ref x0, .int x1, .int x2, .int x3, .int x4, .int x5] (st) h Q ↔ WP 5 52 [.ref x0, .int x1, .int x2, .int x3, .int x4, .int x5] (.ref x0 :: st) h Q) ∧
  (∀ (x0 : Nat) (x1 : Int32) (x2 : Int32) (x3 : Int32) (x4 : Int32) (x5 : Int32) (y0 : Nat) (st : List Value) (h : AH) (Q : Option Value → AH → Prop) (ht : hT h y0 = 1), WP 5 52 [.ref x0, .int x1, .int x2, .int x3, .int x4, .int x5] (.ref y0 :: st) h Q ↔ WP 5 55 [.ref x0, .int x1, .int x2, .int x3, .int x4, .int x5] (.ref (hR h y0 6) :: st) h Q) ∧
  (∀ (x0 : Nat) (x1 : Int32) (x2 : Int32) (x3 : Int32) (x4 : Int32) (x5 : Int32) (st : List Value) (h : AH) (Q : Option Value → AH → Prop), WP 5 55 [.ref x0, .int x1, .int x2, .int x3, .int x4, .int x5] (st) h Q ↔ WP 5 56 [.ref x0, .int x1, .int x2, .int x3, .int x4, .int x5] (.ref x0 :: st) h Q) ∧
  (∀ (x0 : Nat) (x1 : Int32) (x2 : Int32) (x3 : Int32) (x4 : Int32) (x5 : Int32) (y0 : Nat) (st : List Value) (h : AH) (Q : Option Value → AH → Prop) (ht : hT h y0 = 1), WP 5 56 [.ref x0, .int x1, .int x2, .int x3, .int x4, .int x5] (.ref y0 :: st) h Q ↔ WP 5 59 [.ref x0, .int x1, .int x2, .int x3, .int x4, .int x5] (.int (hI h y0 0) :: st) h Q) ∧
  (∀ (x0 : Nat) (x1 : Int32) (x2 : Int32) (x3 : Int32) (x4 : Int32) (x5 : Int32) (st : List Value) (h : AH) (Q : Option Value → AH → Prop), WP 5 59 [.ref x0, .int x1, .int x2, .int x3, .int x4, .int x5] (st) h Q ↔ WP 5 61 [.ref x0, .int x1, .int x2, .int x3, .int x4, .int x5] (.int x5 :: st) h Q) ∧
  (∀ (x0 : Nat) (x1 : Int32) (x2 : Int32) (x3 : Int32) (x4 : Int32) (x5 : Int32) (y0 : Int32) (y1 : Int32) (y2 : Nat) (st : List Value) (h : AH) (Q : Option Value → AH → Prop) (ht : hT h y2 = 100) (hi : inb y1 (hL h y2) = true), WP 5 61 [.ref x0, .int x1, .int x2, .int x3, .int x4, .int x5] (.int y0 :: .int y1 :: .ref y2 :: st) h Q ↔ WP 5 62 [.ref x0, .int x1, .int x2, .int x3, .int x4, .int x5] (st) (sI h y2 y1.toNatClampNeg y0) Q) ∧
  (∀ (x0 : Nat) (x1 : Int32) (x2 : Int32) (x3 : Int32) (x4 : Int32) (x5 : Int32) (st : List Value) (h : AH) (Q : Option Value → AH → Prop), WP 5 62 [.ref x0, .int x1, .int x2, .int x3, .int x4, .int x5] (st) h Q ↔ WP 5 63 [.ref x0, .int x1, .int x2, .int x3, .int x4, .int x5] (.ref x0 :: st) h Q) ∧
  (∀ (x0 : Nat) (x1 : Int32) (x2 : Int32) (x3 : Int32) (x4 : Int32) (x5 : Int32) (y0 : Nat) (st : List Value) (h : AH) (Q : Option Value → AH → Prop), WP 5 63 [.ref x0, .int x1, .int x2, .int x3, .int x4, .int x5] (.ref y0 :: st) h Q ↔ WP 5 64 [.ref x0, .int x1, .int x2, .int x3, .int x4, .int x5] (.ref y0 :: .ref y0 :: st) h Q) ∧
  (∀ (x0 : Nat) (x1 : Int32) (x2 : Int32) (x3 : Int32) (x4 : Int32) (x5 : Int32) (y0 : Nat) (st : List Value) (h : AH) (Q : Option Value → AH → Prop) (ht : hT h y0 = 1), WP 5 64 [.ref x0, .int x1, .int x2, .int x3, .int x4, .int x5] (.ref y0 :: st) h Q ↔ WP 5 67 [.ref x0, .int x1, .int x2, .int x3, .int x4, .int x5] (.int (hI h y0 0) :: st) h Q) ∧
  (∀ (x0 : Nat) (x1 : Int32) (x2 : Int32) (x3 : Int32) (x4 : Int32) (x5 : Int32) (st : List Value) (h : AH) (Q : Option Value → AH → Prop), WP 5 67 [.ref x0, .int x1, .int x2, .int x3, .int x4, .int x5] (st) h Q ↔ WP 5 68 [.ref x0, .int x1, .int x2, .int x3, .int x4, .int x5] (.int (1) :: st) h Q) ∧
  (∀ (x0 : Nat) (x1 : Int32) (x2 : Int32) (x3 : Int32) (x4 : Int32) (x5 : Int32) (y0 : Int32) (y1 : Int32) (st : List Value) (h : AH) (Q : Option Value → AH → Prop), WP 5 68 [.ref x0, .int x1, .int x2, .int x3, .int x4, .int x5] (.int y0 :: .int y1 :: st) h Q ↔ WP 5 69 [.ref x0, .int x1, .int x2, .int x3, .int x4, .int x5] (.int (y1 + y0) :: st) h Q) :=
  ⟨fun _ _ _ _ _ _ _ _ _ => WP_s (show ct 5 0 = some (.aload_n 0, 0, []) by decide +kernel) rfl,
  fun _ _ _ _ _ _ _ _ _ _ ht => WH_gI (show ct 5 1 = some (.getfield 27, 1, [0, 0, 0, 351]) by decide +kernel) (by decide) ht,
  fun _ _ _ _ _ _ _ _ _ => WP_s (show ct 5 4 = some (.bipush 112, 0, []) by decide +kernel) rfl,
  fun _ _ _ _ _ _ _ _ _ _ _ => WI_lt (show ct 5 6 = some (.if_icmp .lt 4, 0, [10]) by decide +kernel) (by decide),
  fun _ _ _ _ _ _ _ _ => WR_v (show ct 5 9 = some (.return_, 2, [0]) by decide +kernel),
  fun _ _ _ _ _ _ _ _ _ => WP_s (show ct 5 10 = some (.aload_n 0, 0, []) by decide +kernel) rfl,
  fun _ _ _ _ _ _ _ _ _ _ ht => WH_gR (show ct 5 11 = some (.getfield 11, 1, [0, 2, 2, 356]) by decide +kernel) ht,
  fun _ _ _ _ _ _ _ _ _ => WP_s (show ct 5 14 = some (.aload_n 0, 0, []) by decide +kernel) rfl,
  fun _ _ _ _ _ _ _ _ _ _ ht => WH_gI (show ct 5 15 = some (.getfield 27, 1, [0, 0, 0, 351]) by decide +kernel) (by decide) ht,
  fun _ _ _ _ _ _ _ _ _ => WP_s (show ct 5 18 = some (.iload_n 1, 0, []) by decide +kernel) rfl,
  fun _ _ _ _ _ _ _ _ _ _ _ _ ht hi => WH_iast (show ct 5 19 = some (.iastore, 1, []) by decide +kernel) ht hi,
  fun _ _ _ _ _ _ _ _ _ => WP_s (show ct 5 20 = some (.aload_n 0, 0, []) by decide +kernel) rfl,
  fun _ _ _ _ _ _ _ _ _ _ ht => WH_gR (show ct 5 21 = some (.getfield 15, 1, [0, 3, 2, 358]) by decide +kernel) ht,
  fun _ _ _ _ _ _ _ _ _ => WP_s (show ct 5 24 = some (.aload_n 0, 0, []) by decide +kernel) rfl,
  fun _ _ _ _ _ _ _ _ _ _ ht => WH_gI (show ct 5 25 = some (.getfield 27, 1, [0, 0, 0, 351]) by decide +kernel) (by decide) ht,
  fun _ _ _ _ _ _ _ _ _ => WP_s (show ct 5 28 = some (.iload_n 2, 0, []) by decide +kernel) rfl,
  fun _ _ _ _ _ _ _ _ _ _ _ _ ht hi => WH_iast (show ct 5 29 = some (.iastore, 1, []) by decide +kernel) ht hi,
  fun _ _ _ _ _ _ _ _ _ => WP_s (show ct 5 30 = some (.aload_n 0, 0, []) by decide +kernel) rfl,
  fun _ _ _ _ _ _ _ _ _ _ ht => WH_gR (show ct 5 31 = some (.getfield 18, 1, [0, 4, 2, 361]) by decide +kernel) ht,
  fun _ _ _ _ _ _ _ _ _ => WP_s (show ct 5 34 = some (.aload_n 0, 0, []) by decide +kernel) rfl,
  fun _ _ _ _ _ _ _ _ _ _ ht => WH_gI (show ct 5 35 = some (.getfield 27, 1, [0, 0, 0, 351]) by decide +kernel) (by decide) ht,
  fun _ _ _ _ _ _ _ _ _ => WP_s (show ct 5 38 = some (.iload_n 3, 0, []) by decide +kernel) rfl,
  fun _ _ _ _ _ _ _ _ _ _ _ _ ht hi => WH_iast (show ct 5 39 = some (.iastore, 1, []) by decide +kernel) ht hi,
  fun _ _ _ _ _ _ _ _ _ => WP_s (show ct 5 40 = some (.aload_n 0, 0, []) by decide +kernel) rfl,
  fun _ _ _ _ _ _ _ _ _ _ ht => WH_gR (show ct 5 41 = some (.getfield 21, 1, [0, 5, 2, 362]) by decide +kernel) ht,
  fun _ _ _ _ _ _ _ _ _ => WP_s (show ct 5 44 = some (.aload_n 0, 0, []) by decide +kernel) rfl,
  fun _ _ _ _ _ _ _ _ _ _ ht => WH_gI (show ct 5 45 = some (.getfield 27, 1, [0, 0, 0, 351]) by decide +kernel) (by decide) ht,
  fun _ _ _ _ _ _ _ _ _ => WP_s (show ct 5 48 = some (.iload 4, 0, []) by decide +kernel) rfl,
  fun _ _ _ _ _ _ _ _ _ _ _ _ ht hi => WH_iast (show ct 5 50 = some (.iastore, 1, []) by decide +kernel) ht hi,
  fun _ _ _ _ _ _ _ _ _ => WP_s (show ct 5 51 = some (.aload_n 0, 0, []) by decide +kernel) rfl,
  fun _ _ _ _ _ _ _ _ _ _ ht => WH_gR (show ct 5 52 = some (.getfield 24, 1, [0, 6, 2, 363]) by decide +kernel) ht,
  fun _ _ _ _ _ _ _ _ _ => WP_s (show ct 5 55 = some (.aload_n 0, 0, []) by decide +kernel) rfl,
  fun _ _ _ _ _ _ _ _ _ _ ht => WH_gI (show ct 5 56 = some (.getfield 27, 1, [0, 0, 0, 351]) by decide +kernel) (by decide) ht,
  fun _ _ _ _ _ _ _ _ _ => WP_s (show ct 5 59 = some (.iload 5, 0, []) by decide +kernel) rfl,
  fun _ _ _ _ _ _ _ _ _ _ _ _ ht hi => WH_iast (show ct 5 61 = some (.iastore, 1, []) by decide +kernel) ht hi,
  fun _ _ _ _ _ _ _ _ _ => WP_s (show ct 5 62 = some (.aload_n 0, 0, []) by decide +kernel) rfl,
  fun _ _ _ _ _ _ _ _ _ _ => WP_s (show ct 5 63 = some (.dup, 0, []) by decide +kernel) rfl,
  fun _ _ _ _ _ _ _ _ _ _ ht => WH_gI (show ct 5 64 = some (.getfield 27, 1, [0, 0, 0, 351]) by decide +kernel) (by decide) ht,
  fun _ _ _ _ _ _ _ _ _ => WP_s (show ct 5 67 = some (.iconst 1, 0, []) by decide +kernel) rfl,
  fun _ _ _ _ _ _ _ _ _ _ _ => WP_s (show ct 5 68 = some (.iadd, 0, []) by decide +kernel) rfl⟩
set_option maxRecDepth 10000 in
theorem w5_b : (∀ (x0 : Nat) (x1 : Int32) (x2 : Int32) (x3 : Int32) (x4 : Int32) (x5 : Int32) (y0 : Int32) (y1 : Nat) (st : List Value) (h : AH) (Q : Option Value → AH → Prop) (ht : hT h y1 = 1), WP 5 69 [.ref x0, .int x1, .int x2, .int x3, .int x4, .int x5] (.int y0 :: .ref y1 :: st) h Q ↔ WP 5 72 [.ref x0, .int x1, .int x2, .int x3, .int x4, .int x5] (st) (sI h y1 0 y0) Q) ∧
  (∀ (x0 : Nat) (x1 : Int32) (x2 : Int32) (x3 : Int32) (x4 : Int32) (x5 : Int32) (h : AH) (Q : Option Value → AH → Prop), WP 5 72 [.ref x0, .int x1, .int x2, .int x3, .int x4, .int x5] ([]) h Q ↔ Q none h) :=
  ⟨fun _ _ _ _ _ _ _ _ _ _ _ ht => WH_pI (show ct 5 69 = some (.putfield 27, 1, [0, 0, 0, 0, 351]) by decide +kernel) ht,
  fun _ _ _ _ _ _ _ _ => WR_v (show ct 5 72 = some (.return_, 2, [0]) by decide +kernel)⟩
/-- all of 5 -/
def w5_n : Nat := 2
/-! 6: FewBowls$Acts.find(I)I; loop heads [2] -/
theorem w6_2 : ∀ (x0 : Nat) (x1 : Int32) (x2 : Int32) (st : List Value) (h : AH) (Q : Option Value → AH → Prop), WP 6 2 [.ref x0, .int x1, .int x2] (st) h Q ↔ WP 6 3 [.ref x0, .int x1, .int x2] (.int x2 :: st) h Q := fun _ _ _ _ _ _ => WP_s (show ct 6 2 = some (.iload_n 2, 0, []) by decide +kernel) rfl
set_option maxRecDepth 10000 in
theorem w6 : (∀ (x0 : Nat) (x1 : Int32) (st : List Value) (h : AH) (Q : Option Value → AH → Prop), WP 6 0 [.ref x0, .int x1, .retAddr 0] (st) h Q ↔ WP 6 1 [.ref x0, .int x1, .retAddr 0] (.int (0) :: st) h Q) ∧
  (∀ (x0 : Nat) (x1 : Int32) (y0 : Int32) (st : List Value) (h : AH) (Q : Option Value → AH → Prop), WP 6 1 [.ref x0, .int x1, .retAddr 0] (.int y0 :: st) h Q ↔ WP 6 2 [.ref x0, .int x1, .int y0] (st) h Q) ∧
  (∀ (x0 : Nat) (x1 : Int32) (x2 : Int32) (st : List Value) (h : AH) (Q : Option Value → AH → Prop), WP 6 3 [.ref x0, .int x1, .int x2] (st) h Q ↔ WP 6 4 [.ref x0, .int x1, .int x2] (.ref x0 :: st) h Q) ∧
  (∀ (x0 : Nat) (x1 : Int32) (x2 : Int32) (y0 : Nat) (st : List Value) (h : AH) (Q : Option Value → AH → Prop) (ht : hT h y0 = 1), WP 6 4 [.ref x0, .int x1, .int x2] (.ref y0 :: st) h Q ↔ WP 6 7 [.ref x0, .int x1, .int x2] (.int (hI h y0 0) :: st) h Q) ∧
  (∀ (x0 : Nat) (x1 : Int32) (x2 : Int32) (y0 : Int32) (y1 : Int32) (st : List Value) (h : AH) (Q : Option Value → AH → Prop), WP 6 7 [.ref x0, .int x1, .int x2] (.int y0 :: .int y1 :: st) h Q ↔ ((y0 ≤ y1 → WP 6 28 [.ref x0, .int x1, .int x2] (st) h Q) ∧ (¬ y0 ≤ y1 → WP 6 10 [.ref x0, .int x1, .int x2] (st) h Q))) ∧
  (∀ (x0 : Nat) (x1 : Int32) (x2 : Int32) (st : List Value) (h : AH) (Q : Option Value → AH → Prop), WP 6 10 [.ref x0, .int x1, .int x2] (st) h Q ↔ WP 6 11 [.ref x0, .int x1, .int x2] (.ref x0 :: st) h Q) ∧
  (∀ (x0 : Nat) (x1 : Int32) (x2 : Int32) (y0 : Nat) (st : List Value) (h : AH) (Q : Option Value → AH → Prop) (ht : hT h y0 = 1), WP 6 11 [.ref x0, .int x1, .int x2] (.ref y0 :: st) h Q ↔ WP 6 14 [.ref x0, .int x1, .int x2] (.ref (hR h y0 2) :: st) h Q) ∧
  (∀ (x0 : Nat) (x1 : Int32) (x2 : Int32) (st : List Value) (h : AH) (Q : Option Value → AH → Prop), WP 6 14 [.ref x0, .int x1, .int x2] (st) h Q ↔ WP 6 15 [.ref x0, .int x1, .int x2] (.int x2 :: st) h Q) ∧
  (∀ (x0 : Nat) (x1 : Int32) (x2 : Int32) (y0 : Int32) (y1 : Nat) (st : List Value) (h : AH) (Q : Option Value → AH → Prop) (ht : hT h y1 = 100 ∨ hT h y1 = 110) (hi : inb y0 (hL h y1) = true), WP 6 15 [.ref x0, .int x1, .int x2] (.int y0 :: .ref y1 :: st) h Q ↔ WP 6 16 [.ref x0, .int x1, .int x2] (.int (hI h y1 y0.toNatClampNeg) :: st) h Q) ∧
  (∀ (x0 : Nat) (x1 : Int32) (x2 : Int32) (st : List Value) (h : AH) (Q : Option Value → AH → Prop), WP 6 16 [.ref x0, .int x1, .int x2] (st) h Q ↔ WP 6 17 [.ref x0, .int x1, .int x2] (.int x1 :: st) h Q) ∧
  (∀ (x0 : Nat) (x1 : Int32) (x2 : Int32) (y0 : Int32) (y1 : Int32) (st : List Value) (h : AH) (Q : Option Value → AH → Prop), WP 6 17 [.ref x0, .int x1, .int x2] (.int y0 :: .int y1 :: st) h Q ↔ ((¬ y1 = y0 → WP 6 22 [.ref x0, .int x1, .int x2] (st) h Q) ∧ (y1 = y0 → WP 6 20 [.ref x0, .int x1, .int x2] (st) h Q))) ∧
  (∀ (x0 : Nat) (x1 : Int32) (x2 : Int32) (st : List Value) (h : AH) (Q : Option Value → AH → Prop), WP 6 20 [.ref x0, .int x1, .int x2] (st) h Q ↔ WP 6 21 [.ref x0, .int x1, .int x2] (.int x2 :: st) h Q) ∧
  (∀ (x0 : Nat) (x1 : Int32) (x2 : Int32) (y0 : Int32) (h : AH) (Q : Option Value → AH → Prop), WP 6 21 [.ref x0, .int x1, .int x2] ([.int y0]) h Q ↔ Q (some (.int y0)) h) ∧
  (∀ (x0 : Nat) (x1 : Int32) (x2 : Int32) (st : List Value) (h : AH) (Q : Option Value → AH → Prop), WP 6 22 [.ref x0, .int x1, .int x2] (st) h Q ↔ WP 6 25 [.ref x0, .int x1, .int (x2 + (1))] (st) h Q) ∧
  (∀ (x0 : Nat) (x1 : Int32) (x2 : Int32) (st : List Value) (h : AH) (Q : Option Value → AH → Prop), WP 6 25 [.ref x0, .int x1, .int x2] (st) h Q ↔ WP 6 2 [.ref x0, .int x1, .int x2] (st) h Q) ∧
  (∀ (x0 : Nat) (x1 : Int32) (x2 : Int32) (st : List Value) (h : AH) (Q : Option Value → AH → Prop), WP 6 28 [.ref x0, .int x1, .int x2] (st) h Q ↔ WP 6 29 [.ref x0, .int x1, .int x2] (.int (-1) :: st) h Q) ∧
  (∀ (x0 : Nat) (x1 : Int32) (x2 : Int32) (y0 : Int32) (h : AH) (Q : Option Value → AH → Prop), WP 6 29 [.ref x0, .int x1, .int x2] ([.int y0]) h Q ↔ Q (some (.int y0)) h) :=
  ⟨fun _ _ _ _ _ => WP_s (show ct 6 0 = some (.iconst 0, 0, []) by decide +kernel) rfl,
  fun _ _ _ _ _ _ => WP_s (show ct 6 1 = some (.istore_n 2, 0, []) by decide +kernel) rfl,
  fun _ _ _ _ _ _ => WP_s (show ct 6 3 = some (.aload_n 0, 0, []) by decide +kernel) rfl,
  fun _ _ _ _ _ _ _ ht => WH_gI (show ct 6 4 = some (.getfield 27, 1, [0, 0, 0, 351]) by decide +kernel) (by decide) ht,
  fun _ _ _ _ _ _ _ _ => WI_ge (show ct 6 7 = some (.if_icmp .ge 21, 0, [28]) by decide +kernel) (by decide),
  fun _ _ _ _ _ _ => WP_s (show ct 6 10 = some (.aload_n 0, 0, []) by decide +kernel) rfl,
  fun _ _ _ _ _ _ _ ht => WH_gR (show ct 6 11 = some (.getfield 11, 1, [0, 2, 2, 356]) by decide +kernel) ht,
  fun _ _ _ _ _ _ => WP_s (show ct 6 14 = some (.iload_n 2, 0, []) by decide +kernel) rfl,
  fun _ _ _ _ _ _ _ _ ht hi => WH_iald (show ct 6 15 = some (.iaload, 1, []) by decide +kernel) ht hi,
  fun _ _ _ _ _ _ => WP_s (show ct 6 16 = some (.iload_n 1, 0, []) by decide +kernel) rfl,
  fun _ _ _ _ _ _ _ _ => WI_ne (show ct 6 17 = some (.if_icmp .ne 5, 0, [22]) by decide +kernel) (by decide),
  fun _ _ _ _ _ _ => WP_s (show ct 6 20 = some (.iload_n 2, 0, []) by decide +kernel) rfl,
  fun _ _ _ _ _ _ => WR_i (show ct 6 21 = some (.ireturn, 2, [0]) by decide +kernel),
  fun _ _ _ _ _ _ => WP_s (show ct 6 22 = some (.iinc 2 1, 0, []) by decide +kernel) rfl,
  fun _ _ _ _ _ _ => WP_s (show ct 6 25 = some (.goto (-23), 0, [2]) by decide +kernel) rfl,
  fun _ _ _ _ _ _ => WP_s (show ct 6 28 = some (.iconst (-1), 0, []) by decide +kernel) rfl,
  fun _ _ _ _ _ _ => WR_i (show ct 6 29 = some (.ireturn, 2, [0]) by decide +kernel)⟩
/-! 7: FewBowls$Acts.after(III)I; loop heads [] -/
set_option maxRecDepth 10000 in
theorem w7_a : (∀ (x0 : Nat) (x1 : Int32) (x2 : Int32) (x3 : Int32) (st : List Value) (h : AH) (Q : Option Value → AH → Prop), WP 7 0 [.ref x0, .int x1, .int x2, .int x3, .retAddr 0] (st) h Q ↔ WP 7 1 [.ref x0, .int x1, .int x2, .int x3, .retAddr 0] (.int x2 :: st) h Q) ∧
  (∀ (x0 : Nat) (x1 : Int32) (x2 : Int32) (x3 : Int32) (st : List Value) (h : AH) (Q : Option Value → AH → Prop), WP 7 1 [.ref x0, .int x1, .int x2, .int x3, .retAddr 0] (st) h Q ↔ WP 7 2 [.ref x0, .int x1, .int x2, .int x3, .retAddr 0] (.ref x0 :: st) h Q) ∧
  (∀ (x0 : Nat) (x1 : Int32) (x2 : Int32) (x3 : Int32) (y0 : Nat) (st : List Value) (h : AH) (Q : Option Value → AH → Prop) (ht : hT h y0 = 1), WP 7 2 [.ref x0, .int x1, .int x2, .int x3, .retAddr 0] (.ref y0 :: st) h Q ↔ WP 7 5 [.ref x0, .int x1, .int x2, .int x3, .retAddr 0] (.ref (hR h y0 4) :: st) h Q) ∧
  (∀ (x0 : Nat) (x1 : Int32) (x2 : Int32) (x3 : Int32) (st : List Value) (h : AH) (Q : Option Value → AH → Prop), WP 7 5 [.ref x0, .int x1, .int x2, .int x3, .retAddr 0] (st) h Q ↔ WP 7 6 [.ref x0, .int x1, .int x2, .int x3, .retAddr 0] (.int x1 :: st) h Q) ∧
  (∀ (x0 : Nat) (x1 : Int32) (x2 : Int32) (x3 : Int32) (y0 : Int32) (y1 : Nat) (st : List Value) (h : AH) (Q : Option Value → AH → Prop) (ht : hT h y1 = 100 ∨ hT h y1 = 110) (hi : inb y0 (hL h y1) = true), WP 7 6 [.ref x0, .int x1, .int x2, .int x3, .retAddr 0] (.int y0 :: .ref y1 :: st) h Q ↔ WP 7 7 [.ref x0, .int x1, .int x2, .int x3, .retAddr 0] (.int (hI h y1 y0.toNatClampNeg) :: st) h Q) ∧
  (∀ (x0 : Nat) (x1 : Int32) (x2 : Int32) (x3 : Int32) (st : List Value) (h : AH) (Q : Option Value → AH → Prop), WP 7 7 [.ref x0, .int x1, .int x2, .int x3, .retAddr 0] (st) h Q ↔ WP 7 8 [.ref x0, .int x1, .int x2, .int x3, .retAddr 0] (.ref x0 :: st) h Q) ∧
  (∀ (x0 : Nat) (x1 : Int32) (x2 : Int32) (x3 : Int32) (y0 : Nat) (st : List Value) (h : AH) (Q : Option Value → AH → Prop) (ht : hT h y0 = 1), WP 7 8 [.ref x0, .int x1, .int x2, .int x3, .retAddr 0] (.ref y0 :: st) h Q ↔ WP 7 11 [.ref x0, .int x1, .int x2, .int x3, .retAddr 0] (.ref (hR h y0 5) :: st) h Q) ∧
  (∀ (x0 : Nat) (x1 : Int32) (x2 : Int32) (x3 : Int32) (st : List Value) (h : AH) (Q : Option Value → AH → Prop), WP 7 11 [.ref x0, .int x1, .int x2, .int x3, .retAddr 0] (st) h Q ↔ WP 7 12 [.ref x0, .int x1, .int x2, .int x3, .retAddr 0] (.int x1 :: st) h Q) ∧
  (∀ (x0 : Nat) (x1 : Int32) (x2 : Int32) (x3 : Int32) (y0 : Int32) (y1 : Nat) (st : List Value) (h : AH) (Q : Option Value → AH → Prop) (ht : hT h y1 = 100 ∨ hT h y1 = 110) (hi : inb y0 (hL h y1) = true), WP 7 12 [.ref x0, .int x1, .int x2, .int x3, .retAddr 0] (.int y0 :: .ref y1 :: st) h Q ↔ WP 7 13 [.ref x0, .int x1, .int x2, .int x3, .retAddr 0] (.int (hI h y1 y0.toNatClampNeg) :: st) h Q) ∧
  (∀ (x0 : Nat) (x1 : Int32) (x2 : Int32) (x3 : Int32) (y0 : Int32) (y1 : Int32) (st : List Value) (h : AH) (Q : Option Value → AH → Prop), WP 7 13 [.ref x0, .int x1, .int x2, .int x3, .retAddr 0] (.int y0 :: .int y1 :: st) h Q ↔ WP 7 14 [.ref x0, .int x1, .int x2, .int x3, .retAddr 0] (.int (y1 ||| y0) :: st) h Q) ∧
  (∀ (x0 : Nat) (x1 : Int32) (x2 : Int32) (x3 : Int32) (y0 : Int32) (y1 : Int32) (st : List Value) (h : AH) (Q : Option Value → AH → Prop), WP 7 14 [.ref x0, .int x1, .int x2, .int x3, .retAddr 0] (.int y0 :: .int y1 :: st) h Q ↔ WP 7 15 [.ref x0, .int x1, .int x2, .int x3, .retAddr 0] (.int (y1 &&& y0) :: st) h Q) ∧
  (∀ (x0 : Nat) (x1 : Int32) (x2 : Int32) (x3 : Int32) (st : List Value) (h : AH) (Q : Option Value → AH → Prop), WP 7 15 [.ref x0, .int x1, .int x2, .int x3, .retAddr 0] (st) h Q ↔ WP 7 16 [.ref x0, .int x1, .int x2, .int x3, .retAddr 0] (.ref x0 :: st) h Q) ∧
  (∀ (x0 : Nat) (x1 : Int32) (x2 : Int32) (x3 : Int32) (y0 : Nat) (st : List Value) (h : AH) (Q : Option Value → AH → Prop) (ht : hT h y0 = 1), WP 7 16 [.ref x0, .int x1, .int x2, .int x3, .retAddr 0] (.ref y0 :: st) h Q ↔ WP 7 19 [.ref x0, .int x1, .int x2, .int x3, .retAddr 0] (.ref (hR h y0 4) :: st) h Q) ∧
  (∀ (x0 : Nat) (x1 : Int32) (x2 : Int32) (x3 : Int32) (st : List Value) (h : AH) (Q : Option Value → AH → Prop), WP 7 19 [.ref x0, .int x1, .int x2, .int x3, .retAddr 0] (st) h Q ↔ WP 7 20 [.ref x0, .int x1, .int x2, .int x3, .retAddr 0] (.int x1 :: st) h Q) ∧
  (∀ (x0 : Nat) (x1 : Int32) (x2 : Int32) (x3 : Int32) (y0 : Int32) (y1 : Nat) (st : List Value) (h : AH) (Q : Option Value → AH → Prop) (ht : hT h y1 = 100 ∨ hT h y1 = 110) (hi : inb y0 (hL h y1) = true), WP 7 20 [.ref x0, .int x1, .int x2, .int x3, .retAddr 0] (.int y0 :: .ref y1 :: st) h Q ↔ WP 7 21 [.ref x0, .int x1, .int x2, .int x3, .retAddr 0] (.int (hI h y1 y0.toNatClampNeg) :: st) h Q) ∧
  (∀ (x0 : Nat) (x1 : Int32) (x2 : Int32) (x3 : Int32) (y0 : Int32) (y1 : Int32) (st : List Value) (h : AH) (Q : Option Value → AH → Prop), WP 7 21 [.ref x0, .int x1, .int x2, .int x3, .retAddr 0] (.int y0 :: .int y1 :: st) h Q ↔ ((y1 = y0 → WP 7 26 [.ref x0, .int x1, .int x2, .int x3, .retAddr 0] (st) h Q) ∧ (¬ y1 = y0 → WP 7 24 [.ref x0, .int x1, .int x2, .int x3, .retAddr 0] (st) h Q))) ∧
  (∀ (x0 : Nat) (x1 : Int32) (x2 : Int32) (x3 : Int32) (st : List Value) (h : AH) (Q : Option Value → AH → Prop), WP 7 24 [.ref x0, .int x1, .int x2, .int x3, .retAddr 0] (st) h Q ↔ WP 7 25 [.ref x0, .int x1, .int x2, .int x3, .retAddr 0] (.int (-1) :: st) h Q) ∧
  (∀ (x0 : Nat) (x1 : Int32) (x2 : Int32) (x3 : Int32) (y0 : Int32) (h : AH) (Q : Option Value → AH → Prop), WP 7 25 [.ref x0, .int x1, .int x2, .int x3, .retAddr 0] ([.int y0]) h Q ↔ Q (some (.int y0)) h) ∧
  (∀ (x0 : Nat) (x1 : Int32) (x2 : Int32) (x3 : Int32) (st : List Value) (h : AH) (Q : Option Value → AH → Prop), WP 7 26 [.ref x0, .int x1, .int x2, .int x3, .retAddr 0] (st) h Q ↔ WP 7 27 [.ref x0, .int x1, .int x2, .int x3, .retAddr 0] (.int x2 :: st) h Q) ∧
  (∀ (x0 : Nat) (x1 : Int32) (x2 : Int32) (x3 : Int32) (st : List Value) (h : AH) (Q : Option Value → AH → Prop), WP 7 27 [.ref x0, .int x1, .int x2, .int x3, .retAddr 0] (st) h Q ↔ WP 7 28 [.ref x0, .int x1, .int x2, .int x3, .retAddr 0] (.ref x0 :: st) h Q) ∧
  (∀ (x0 : Nat) (x1 : Int32) (x2 : Int32) (x3 : Int32) (y0 : Nat) (st : List Value) (h : AH) (Q : Option Value → AH → Prop) (ht : hT h y0 = 1), WP 7 28 [.ref x0, .int x1, .int x2, .int x3, .retAddr 0] (.ref y0 :: st) h Q ↔ WP 7 31 [.ref x0, .int x1, .int x2, .int x3, .retAddr 0] (.ref (hR h y0 5) :: st) h Q) ∧
  (∀ (x0 : Nat) (x1 : Int32) (x2 : Int32) (x3 : Int32) (st : List Value) (h : AH) (Q : Option Value → AH → Prop), WP 7 31 [.ref x0, .int x1, .int x2, .int x3, .retAddr 0] (st) h Q ↔ WP 7 32 [.ref x0, .int x1, .int x2, .int x3, .retAddr 0] (.int x1 :: st) h Q) ∧
  (∀ (x0 : Nat) (x1 : Int32) (x2 : Int32) (x3 : Int32) (y0 : Int32) (y1 : Nat) (st : List Value) (h : AH) (Q : Option Value → AH → Prop) (ht : hT h y1 = 100 ∨ hT h y1 = 110) (hi : inb y0 (hL h y1) = true), WP 7 32 [.ref x0, .int x1, .int x2, .int x3, .retAddr 0] (.int y0 :: .ref y1 :: st) h Q ↔ WP 7 33 [.ref x0, .int x1, .int x2, .int x3, .retAddr 0] (.int (hI h y1 y0.toNatClampNeg) :: st) h Q) ∧
  (∀ (x0 : Nat) (x1 : Int32) (x2 : Int32) (x3 : Int32) (y0 : Int32) (y1 : Int32) (st : List Value) (h : AH) (Q : Option Value → AH → Prop), WP 7 33 [.ref x0, .int x1, .int x2, .int x3, .retAddr 0] (.int y0 :: .int y1 :: st) h Q ↔ WP 7 34 [.ref x0, .int x1, .int x2, .int x3, .retAddr 0] (.int (y1 ||| y0) :: st) h Q) ∧
  (∀ (x0 : Nat) (x1 : Int32) (x2 : Int32) (x3 : Int32) (st : List Value) (h : AH) (Q : Option Value → AH → Prop), WP 7 34 [.ref x0, .int x1, .int x2, .int x3, .retAddr 0] (st) h Q ↔ WP 7 35 [.ref x0, .int x1, .int x2, .int x3, .retAddr 0] (.ref x0 :: st) h Q) ∧
  (∀ (x0 : Nat) (x1 : Int32) (x2 : Int32) (x3 : Int32) (y0 : Nat) (st : List Value) (h : AH) (Q : Option Value → AH → Prop) (ht : hT h y0 = 1), WP 7 35 [.ref x0, .int x1, .int x2, .int x3, .retAddr 0] (.ref y0 :: st) h Q ↔ WP 7 38 [.ref x0, .int x1, .int x2, .int x3, .retAddr 0] (.ref (hR h y0 6) :: st) h Q) ∧
  (∀ (x0 : Nat) (x1 : Int32) (x2 : Int32) (x3 : Int32) (st : List Value) (h : AH) (Q : Option Value → AH → Prop), WP 7 38 [.ref x0, .int x1, .int x2, .int x3, .retAddr 0] (st) h Q ↔ WP 7 39 [.ref x0, .int x1, .int x2, .int x3, .retAddr 0] (.int x1 :: st) h Q) ∧
  (∀ (x0 : Nat) (x1 : Int32) (x2 : Int32) (x3 : Int32) (y0 : Int32) (y1 : Nat) (st : List Value) (h : AH) (Q : Option Value → AH → Prop) (ht : hT h y1 = 100 ∨ hT h y1 = 110) (hi : inb y0 (hL h y1) = true), WP 7 39 [.ref x0, .int x1, .int x2, .int x3, .retAddr 0] (.int y0 :: .ref y1 :: st) h Q ↔ WP 7 40 [.ref x0, .int x1, .int x2, .int x3, .retAddr 0] (.int (hI h y1 y0.toNatClampNeg) :: st) h Q) ∧
  (∀ (x0 : Nat) (x1 : Int32) (x2 : Int32) (x3 : Int32) (st : List Value) (h : AH) (Q : Option Value → AH → Prop), WP 7 40 [.ref x0, .int x1, .int x2, .int x3, .retAddr 0] (st) h Q ↔ WP 7 41 [.ref x0, .int x1, .int x2, .int x3, .retAddr 0] (.int (-1) :: st) h Q) ∧
  (∀ (x0 : Nat) (x1 : Int32) (x2 : Int32) (x3 : Int32) (y0 : Int32) (y1 : Int32) (st : List Value) (h : AH) (Q : Option Value → AH → Prop), WP 7 41 [.ref x0, .int x1, .int x2, .int x3, .retAddr 0] (.int y0 :: .int y1 :: st) h Q ↔ WP 7 42 [.ref x0, .int x1, .int x2, .int x3, .retAddr 0] (.int (y1 ^^^ y0) :: st) h Q) ∧
  (∀ (x0 : Nat) (x1 : Int32) (x2 : Int32) (x3 : Int32) (y0 : Int32) (y1 : Int32) (st : List Value) (h : AH) (Q : Option Value → AH → Prop), WP 7 42 [.ref x0, .int x1, .int x2, .int x3, .retAddr 0] (.int y0 :: .int y1 :: st) h Q ↔ WP 7 43 [.ref x0, .int x1, .int x2, .int x3, .retAddr 0] (.int (y1 &&& y0) :: st) h Q) ∧
  (∀ (x0 : Nat) (x1 : Int32) (x2 : Int32) (x3 : Int32) (y0 : Int32) (st : List Value) (h : AH) (Q : Option Value → AH → Prop), WP 7 43 [.ref x0, .int x1, .int x2, .int x3, .retAddr 0] (.int y0 :: st) h Q ↔ WP 7 45 [.ref x0, .int x1, .int x2, .int x3, .int y0] (st) h Q) ∧
  (∀ (x0 : Nat) (x1 : Int32) (x2 : Int32) (x3 : Int32) (x4 : Int32) (st : List Value) (h : AH) (Q : Option Value → AH → Prop), WP 7 45 [.ref x0, .int x1, .int x2, .int x3, .int x4] (st) h Q ↔ WP 7 47 [.ref x0, .int x1, .int x2, .int x3, .int x4] (.int x4 :: st) h Q) ∧
  (∀ (x0 : Nat) (x1 : Int32) (x2 : Int32) (x3 : Int32) (x4 : Int32) (st : List Value) (h : AH) (Q : Option Value → AH → Prop), WP 7 47 [.ref x0, .int x1, .int x2, .int x3, .int x4] (st) h Q ↔ WP 7 48 [.ref x0, .int x1, .int x2, .int x3, .int x4] (.ref x0 :: st) h Q) ∧
  (∀ (x0 : Nat) (x1 : Int32) (x2 : Int32) (x3 : Int32) (x4 : Int32) (y0 : Nat) (st : List Value) (h : AH) (Q : Option Value → AH → Prop) (ht : hT h y0 = 1), WP 7 48 [.ref x0, .int x1, .int x2, .int x3, .int x4] (.ref y0 :: st) h Q ↔ WP 7 51 [.ref x0, .int x1, .int x2, .int x3, .int x4] (.int (hI h y0 1) :: st) h Q) ∧
  (∀ (x0 : Nat) (x1 : Int32) (x2 : Int32) (x3 : Int32) (x4 : Int32) (y0 : Int32) (y1 : Int32) (st : List Value) (h : AH) (Q : Option Value → AH → Prop), WP 7 51 [.ref x0, .int x1, .int x2, .int x3, .int x4] (.int y0 :: .int y1 :: st) h Q ↔ ((y0 ≤ y1 → WP 7 68 [.ref x0, .int x1, .int x2, .int x3, .int x4] (st) h Q) ∧ (¬ y0 ≤ y1 → WP 7 54 [.ref x0, .int x1, .int x2, .int x3, .int x4] (st) h Q))) ∧
  (∀ (x0 : Nat) (x1 : Int32) (x2 : Int32) (x3 : Int32) (x4 : Int32) (st : List Value) (h : AH) (Q : Option Value → AH → Prop), WP 7 54 [.ref x0, .int x1, .int x2, .int x3, .int x4] (st) h Q ↔ WP 7 56 [.ref x0, .int x1, .int x2, .int x3, .int x4] (.int x4 :: st) h Q) ∧
  (∀ (x0 : Nat) (x1 : Int32) (x2 : Int32) (x3 : Int32) (x4 : Int32) (y0 : Int32) (h : AH) (Q : Option Value → AH → Prop), WP 7 56 [.ref x0, .int x1, .int x2, .int x3, .int x4] ([.int y0]) h Q ↔ WPM 218 [.int y0] h (fun r h' => WP 7 59 [.ref x0, .int x1, .int x2, .int x3, .int x4] (r.toList ++ []) h' Q)) ∧
  (∀ (x0 : Nat) (x1 : Int32) (x2 : Int32) (x3 : Int32) (x4 : Int32) (st : List Value) (h : AH) (Q : Option Value → AH → Prop), WP 7 59 [.ref x0, .int x1, .int x2, .int x3, .int x4] (st) h Q ↔ WP 7 60 [.ref x0, .int x1, .int x2, .int x3, .int x4] (.int x3 :: st) h Q) ∧
  (∀ (x0 : Nat) (x1 : Int32) (x2 : Int32) (x3 : Int32) (x4 : Int32) (y0 : Int32) (y1 : Int32) (st : List Value) (h : AH) (Q : Option Value → AH → Prop), WP 7 60 [.ref x0, .int x1, .int x2, .int x3, .int x4] (.int y0 :: .int y1 :: st) h Q ↔ ((y0 < y1 → WP 7 68 [.ref x0, .int x1, .int x2, .int x3, .int x4] (st) h Q) ∧ (¬ y0 < y1 → WP 7 63 [.ref x0, .int x1, .int x2, .int x3, .int x4] (st) h Q))) :=
  ⟨fun _ _ _ _ _ _ _ => WP_s (show ct 7 0 = some (.iload_n 2, 0, []) by decide +kernel) rfl,
  fun _ _ _ _ _ _ _ => WP_s (show ct 7 1 = some (.aload_n 0, 0, []) by decide +kernel) rfl,
  fun _ _ _ _ _ _ _ _ ht => WH_gR (show ct 7 2 = some (.getfield 18, 1, [0, 4, 2, 361]) by decide +kernel) ht,
  fun _ _ _ _ _ _ _ => WP_s (show ct 7 5 = some (.iload_n 1, 0, []) by decide +kernel) rfl,
  fun _ _ _ _ _ _ _ _ _ ht hi => WH_iald (show ct 7 6 = some (.iaload, 1, []) by decide +kernel) ht hi,
  fun _ _ _ _ _ _ _ => WP_s (show ct 7 7 = some (.aload_n 0, 0, []) by decide +kernel) rfl,
  fun _ _ _ _ _ _ _ _ ht => WH_gR (show ct 7 8 = some (.getfield 21, 1, [0, 5, 2, 362]) by decide +kernel) ht,
  fun _ _ _ _ _ _ _ => WP_s (show ct 7 11 = some (.iload_n 1, 0, []) by decide +kernel) rfl,
  fun _ _ _ _ _ _ _ _ _ ht hi => WH_iald (show ct 7 12 = some (.iaload, 1, []) by decide +kernel) ht hi,
  fun _ _ _ _ _ _ _ _ _ => WP_s (show ct 7 13 = some (.ior, 0, []) by decide +kernel) rfl,
  fun _ _ _ _ _ _ _ _ _ => WP_s (show ct 7 14 = some (.iand, 0, []) by decide +kernel) rfl,
  fun _ _ _ _ _ _ _ => WP_s (show ct 7 15 = some (.aload_n 0, 0, []) by decide +kernel) rfl,
  fun _ _ _ _ _ _ _ _ ht => WH_gR (show ct 7 16 = some (.getfield 18, 1, [0, 4, 2, 361]) by decide +kernel) ht,
  fun _ _ _ _ _ _ _ => WP_s (show ct 7 19 = some (.iload_n 1, 0, []) by decide +kernel) rfl,
  fun _ _ _ _ _ _ _ _ _ ht hi => WH_iald (show ct 7 20 = some (.iaload, 1, []) by decide +kernel) ht hi,
  fun _ _ _ _ _ _ _ _ _ => WI_eq (show ct 7 21 = some (.if_icmp .eq 5, 0, [26]) by decide +kernel) (by decide),
  fun _ _ _ _ _ _ _ => WP_s (show ct 7 24 = some (.iconst (-1), 0, []) by decide +kernel) rfl,
  fun _ _ _ _ _ _ _ => WR_i (show ct 7 25 = some (.ireturn, 2, [0]) by decide +kernel),
  fun _ _ _ _ _ _ _ => WP_s (show ct 7 26 = some (.iload_n 2, 0, []) by decide +kernel) rfl,
  fun _ _ _ _ _ _ _ => WP_s (show ct 7 27 = some (.aload_n 0, 0, []) by decide +kernel) rfl,
  fun _ _ _ _ _ _ _ _ ht => WH_gR (show ct 7 28 = some (.getfield 21, 1, [0, 5, 2, 362]) by decide +kernel) ht,
  fun _ _ _ _ _ _ _ => WP_s (show ct 7 31 = some (.iload_n 1, 0, []) by decide +kernel) rfl,
  fun _ _ _ _ _ _ _ _ _ ht hi => WH_iald (show ct 7 32 = some (.iaload, 1, []) by decide +kernel) ht hi,
  fun _ _ _ _ _ _ _ _ _ => WP_s (show ct 7 33 = some (.ior, 0, []) by decide +kernel) rfl,
  fun _ _ _ _ _ _ _ => WP_s (show ct 7 34 = some (.aload_n 0, 0, []) by decide +kernel) rfl,
  fun _ _ _ _ _ _ _ _ ht => WH_gR (show ct 7 35 = some (.getfield 24, 1, [0, 6, 2, 363]) by decide +kernel) ht,
  fun _ _ _ _ _ _ _ => WP_s (show ct 7 38 = some (.iload_n 1, 0, []) by decide +kernel) rfl,
  fun _ _ _ _ _ _ _ _ _ ht hi => WH_iald (show ct 7 39 = some (.iaload, 1, []) by decide +kernel) ht hi,
  fun _ _ _ _ _ _ _ => WP_s (show ct 7 40 = some (.iconst (-1), 0, []) by decide +kernel) rfl,
  fun _ _ _ _ _ _ _ _ _ => WP_s (show ct 7 41 = some (.ixor, 0, []) by decide +kernel) rfl,
  fun _ _ _ _ _ _ _ _ _ => WP_s (show ct 7 42 = some (.iand, 0, []) by decide +kernel) rfl,
  fun _ _ _ _ _ _ _ _ => WP_s (show ct 7 43 = some (.istore 4, 0, []) by decide +kernel) rfl,
  fun _ _ _ _ _ _ _ _ => WP_s (show ct 7 45 = some (.iload 4, 0, []) by decide +kernel) rfl,
  fun _ _ _ _ _ _ _ _ => WP_s (show ct 7 47 = some (.aload_n 0, 0, []) by decide +kernel) rfl,
  fun _ _ _ _ _ _ _ _ _ ht => WH_gI (show ct 7 48 = some (.getfield 37, 1, [0, 1, 0, 355]) by decide +kernel) (by decide) ht,
  fun _ _ _ _ _ _ _ _ _ _ => WI_ge (show ct 7 51 = some (.if_icmp .ge 17, 0, [68]) by decide +kernel) (by decide),
  fun _ _ _ _ _ _ _ _ => WP_s (show ct 7 54 = some (.iload 4, 0, []) by decide +kernel) rfl,
  fun _ _ _ _ _ _ _ _ => WC_0 (show ct 7 56 = some (.invokestatic 64, 3, [218, 1, 0, 0, 0, 829, 699, 0]) by decide +kernel) (Nat.le_of_ble_eq_true rfl) (Nat.le_of_ble_eq_true rfl) rfl rfl,
  fun _ _ _ _ _ _ _ _ => WP_s (show ct 7 59 = some (.iload_n 3, 0, []) by decide +kernel) rfl,
  fun _ _ _ _ _ _ _ _ _ _ => WI_gt (show ct 7 60 = some (.if_icmp .gt 8, 0, [68]) by decide +kernel) (by decide)⟩
set_option maxRecDepth 10000 in
theorem w7_b : (∀ (x0 : Nat) (x1 : Int32) (x2 : Int32) (x3 : Int32) (x4 : Int32) (st : List Value) (h : AH) (Q : Option Value → AH → Prop), WP 7 63 [.ref x0, .int x1, .int x2, .int x3, .int x4] (st) h Q ↔ WP 7 65 [.ref x0, .int x1, .int x2, .int x3, .int x4] (.int x4 :: st) h Q) ∧
  (∀ (x0 : Nat) (x1 : Int32) (x2 : Int32) (x3 : Int32) (x4 : Int32) (st : List Value) (h : AH) (Q : Option Value → AH → Prop), WP 7 65 [.ref x0, .int x1, .int x2, .int x3, .int x4] (st) h Q ↔ WP 7 69 [.ref x0, .int x1, .int x2, .int x3, .int x4] (st) h Q) ∧
  (∀ (x0 : Nat) (x1 : Int32) (x2 : Int32) (x3 : Int32) (x4 : Int32) (st : List Value) (h : AH) (Q : Option Value → AH → Prop), WP 7 68 [.ref x0, .int x1, .int x2, .int x3, .int x4] (st) h Q ↔ WP 7 69 [.ref x0, .int x1, .int x2, .int x3, .int x4] (.int (-1) :: st) h Q) ∧
  (∀ (x0 : Nat) (x1 : Int32) (x2 : Int32) (x3 : Int32) (x4 : Int32) (y0 : Int32) (h : AH) (Q : Option Value → AH → Prop), WP 7 69 [.ref x0, .int x1, .int x2, .int x3, .int x4] ([.int y0]) h Q ↔ Q (some (.int y0)) h) :=
  ⟨fun _ _ _ _ _ _ _ _ => WP_s (show ct 7 63 = some (.iload 4, 0, []) by decide +kernel) rfl,
  fun _ _ _ _ _ _ _ _ => WP_s (show ct 7 65 = some (.goto 4, 0, [69]) by decide +kernel) rfl,
  fun _ _ _ _ _ _ _ _ => WP_s (show ct 7 68 = some (.iconst (-1), 0, []) by decide +kernel) rfl,
  fun _ _ _ _ _ _ _ _ => WR_i (show ct 7 69 = some (.ireturn, 2, [0]) by decide +kernel)⟩
/-- all of 7 -/
def w7_n : Nat := 2
/-! 8: FewBowls$Acts.before(III)I; loop heads [] -/
set_option maxRecDepth 10000 in
theorem w8_a : (∀ (x0 : Nat) (x1 : Int32) (x2 : Int32) (x3 : Int32) (st : List Value) (h : AH) (Q : Option Value → AH → Prop), WP 8 0 [.ref x0, .int x1, .int x2, .int x3, .retAddr 0] (st) h Q ↔ WP 8 1 [.ref x0, .int x1, .int x2, .int x3, .retAddr 0] (.int x2 :: st) h Q) ∧
  (∀ (x0 : Nat) (x1 : Int32) (x2 : Int32) (x3 : Int32) (st : List Value) (h : AH) (Q : Option Value → AH → Prop), WP 8 1 [.ref x0, .int x1, .int x2, .int x3, .retAddr 0] (st) h Q ↔ WP 8 2 [.ref x0, .int x1, .int x2, .int x3, .retAddr 0] (.ref x0 :: st) h Q) ∧
  (∀ (x0 : Nat) (x1 : Int32) (x2 : Int32) (x3 : Int32) (y0 : Nat) (st : List Value) (h : AH) (Q : Option Value → AH → Prop) (ht : hT h y0 = 1), WP 8 2 [.ref x0, .int x1, .int x2, .int x3, .retAddr 0] (.ref y0 :: st) h Q ↔ WP 8 5 [.ref x0, .int x1, .int x2, .int x3, .retAddr 0] (.ref (hR h y0 5) :: st) h Q) ∧
  (∀ (x0 : Nat) (x1 : Int32) (x2 : Int32) (x3 : Int32) (st : List Value) (h : AH) (Q : Option Value → AH → Prop), WP 8 5 [.ref x0, .int x1, .int x2, .int x3, .retAddr 0] (st) h Q ↔ WP 8 6 [.ref x0, .int x1, .int x2, .int x3, .retAddr 0] (.int x1 :: st) h Q) ∧
  (∀ (x0 : Nat) (x1 : Int32) (x2 : Int32) (x3 : Int32) (y0 : Int32) (y1 : Nat) (st : List Value) (h : AH) (Q : Option Value → AH → Prop) (ht : hT h y1 = 100 ∨ hT h y1 = 110) (hi : inb y0 (hL h y1) = true), WP 8 6 [.ref x0, .int x1, .int x2, .int x3, .retAddr 0] (.int y0 :: .ref y1 :: st) h Q ↔ WP 8 7 [.ref x0, .int x1, .int x2, .int x3, .retAddr 0] (.int (hI h y1 y0.toNatClampNeg) :: st) h Q) ∧
  (∀ (x0 : Nat) (x1 : Int32) (x2 : Int32) (x3 : Int32) (st : List Value) (h : AH) (Q : Option Value → AH → Prop), WP 8 7 [.ref x0, .int x1, .int x2, .int x3, .retAddr 0] (st) h Q ↔ WP 8 8 [.ref x0, .int x1, .int x2, .int x3, .retAddr 0] (.ref x0 :: st) h Q) ∧
  (∀ (x0 : Nat) (x1 : Int32) (x2 : Int32) (x3 : Int32) (y0 : Nat) (st : List Value) (h : AH) (Q : Option Value → AH → Prop) (ht : hT h y0 = 1), WP 8 8 [.ref x0, .int x1, .int x2, .int x3, .retAddr 0] (.ref y0 :: st) h Q ↔ WP 8 11 [.ref x0, .int x1, .int x2, .int x3, .retAddr 0] (.ref (hR h y0 6) :: st) h Q) ∧
  (∀ (x0 : Nat) (x1 : Int32) (x2 : Int32) (x3 : Int32) (st : List Value) (h : AH) (Q : Option Value → AH → Prop), WP 8 11 [.ref x0, .int x1, .int x2, .int x3, .retAddr 0] (st) h Q ↔ WP 8 12 [.ref x0, .int x1, .int x2, .int x3, .retAddr 0] (.int x1 :: st) h Q) ∧
  (∀ (x0 : Nat) (x1 : Int32) (x2 : Int32) (x3 : Int32) (y0 : Int32) (y1 : Nat) (st : List Value) (h : AH) (Q : Option Value → AH → Prop) (ht : hT h y1 = 100 ∨ hT h y1 = 110) (hi : inb y0 (hL h y1) = true), WP 8 12 [.ref x0, .int x1, .int x2, .int x3, .retAddr 0] (.int y0 :: .ref y1 :: st) h Q ↔ WP 8 13 [.ref x0, .int x1, .int x2, .int x3, .retAddr 0] (.int (hI h y1 y0.toNatClampNeg) :: st) h Q) ∧
  (∀ (x0 : Nat) (x1 : Int32) (x2 : Int32) (x3 : Int32) (y0 : Int32) (y1 : Int32) (st : List Value) (h : AH) (Q : Option Value → AH → Prop), WP 8 13 [.ref x0, .int x1, .int x2, .int x3, .retAddr 0] (.int y0 :: .int y1 :: st) h Q ↔ WP 8 14 [.ref x0, .int x1, .int x2, .int x3, .retAddr 0] (.int (y1 ||| y0) :: st) h Q) ∧
  (∀ (x0 : Nat) (x1 : Int32) (x2 : Int32) (x3 : Int32) (y0 : Int32) (y1 : Int32) (st : List Value) (h : AH) (Q : Option Value → AH → Prop), WP 8 14 [.ref x0, .int x1, .int x2, .int x3, .retAddr 0] (.int y0 :: .int y1 :: st) h Q ↔ WP 8 15 [.ref x0, .int x1, .int x2, .int x3, .retAddr 0] (.int (y1 &&& y0) :: st) h Q) ∧
  (∀ (x0 : Nat) (x1 : Int32) (x2 : Int32) (x3 : Int32) (st : List Value) (h : AH) (Q : Option Value → AH → Prop), WP 8 15 [.ref x0, .int x1, .int x2, .int x3, .retAddr 0] (st) h Q ↔ WP 8 16 [.ref x0, .int x1, .int x2, .int x3, .retAddr 0] (.ref x0 :: st) h Q) ∧
  (∀ (x0 : Nat) (x1 : Int32) (x2 : Int32) (x3 : Int32) (y0 : Nat) (st : List Value) (h : AH) (Q : Option Value → AH → Prop) (ht : hT h y0 = 1), WP 8 16 [.ref x0, .int x1, .int x2, .int x3, .retAddr 0] (.ref y0 :: st) h Q ↔ WP 8 19 [.ref x0, .int x1, .int x2, .int x3, .retAddr 0] (.ref (hR h y0 5) :: st) h Q) ∧
  (∀ (x0 : Nat) (x1 : Int32) (x2 : Int32) (x3 : Int32) (st : List Value) (h : AH) (Q : Option Value → AH → Prop), WP 8 19 [.ref x0, .int x1, .int x2, .int x3, .retAddr 0] (st) h Q ↔ WP 8 20 [.ref x0, .int x1, .int x2, .int x3, .retAddr 0] (.int x1 :: st) h Q) ∧
  (∀ (x0 : Nat) (x1 : Int32) (x2 : Int32) (x3 : Int32) (y0 : Int32) (y1 : Nat) (st : List Value) (h : AH) (Q : Option Value → AH → Prop) (ht : hT h y1 = 100 ∨ hT h y1 = 110) (hi : inb y0 (hL h y1) = true), WP 8 20 [.ref x0, .int x1, .int x2, .int x3, .retAddr 0] (.int y0 :: .ref y1 :: st) h Q ↔ WP 8 21 [.ref x0, .int x1, .int x2, .int x3, .retAddr 0] (.int (hI h y1 y0.toNatClampNeg) :: st) h Q) ∧
  (∀ (x0 : Nat) (x1 : Int32) (x2 : Int32) (x3 : Int32) (y0 : Int32) (y1 : Int32) (st : List Value) (h : AH) (Q : Option Value → AH → Prop), WP 8 21 [.ref x0, .int x1, .int x2, .int x3, .retAddr 0] (.int y0 :: .int y1 :: st) h Q ↔ ((y1 = y0 → WP 8 26 [.ref x0, .int x1, .int x2, .int x3, .retAddr 0] (st) h Q) ∧ (¬ y1 = y0 → WP 8 24 [.ref x0, .int x1, .int x2, .int x3, .retAddr 0] (st) h Q))) ∧
  (∀ (x0 : Nat) (x1 : Int32) (x2 : Int32) (x3 : Int32) (st : List Value) (h : AH) (Q : Option Value → AH → Prop), WP 8 24 [.ref x0, .int x1, .int x2, .int x3, .retAddr 0] (st) h Q ↔ WP 8 25 [.ref x0, .int x1, .int x2, .int x3, .retAddr 0] (.int (-1) :: st) h Q) ∧
  (∀ (x0 : Nat) (x1 : Int32) (x2 : Int32) (x3 : Int32) (y0 : Int32) (h : AH) (Q : Option Value → AH → Prop), WP 8 25 [.ref x0, .int x1, .int x2, .int x3, .retAddr 0] ([.int y0]) h Q ↔ Q (some (.int y0)) h) ∧
  (∀ (x0 : Nat) (x1 : Int32) (x2 : Int32) (x3 : Int32) (st : List Value) (h : AH) (Q : Option Value → AH → Prop), WP 8 26 [.ref x0, .int x1, .int x2, .int x3, .retAddr 0] (st) h Q ↔ WP 8 27 [.ref x0, .int x1, .int x2, .int x3, .retAddr 0] (.int x2 :: st) h Q) ∧
  (∀ (x0 : Nat) (x1 : Int32) (x2 : Int32) (x3 : Int32) (st : List Value) (h : AH) (Q : Option Value → AH → Prop), WP 8 27 [.ref x0, .int x1, .int x2, .int x3, .retAddr 0] (st) h Q ↔ WP 8 28 [.ref x0, .int x1, .int x2, .int x3, .retAddr 0] (.ref x0 :: st) h Q) ∧
  (∀ (x0 : Nat) (x1 : Int32) (x2 : Int32) (x3 : Int32) (y0 : Nat) (st : List Value) (h : AH) (Q : Option Value → AH → Prop) (ht : hT h y0 = 1), WP 8 28 [.ref x0, .int x1, .int x2, .int x3, .retAddr 0] (.ref y0 :: st) h Q ↔ WP 8 31 [.ref x0, .int x1, .int x2, .int x3, .retAddr 0] (.ref (hR h y0 5) :: st) h Q) ∧
  (∀ (x0 : Nat) (x1 : Int32) (x2 : Int32) (x3 : Int32) (st : List Value) (h : AH) (Q : Option Value → AH → Prop), WP 8 31 [.ref x0, .int x1, .int x2, .int x3, .retAddr 0] (st) h Q ↔ WP 8 32 [.ref x0, .int x1, .int x2, .int x3, .retAddr 0] (.int x1 :: st) h Q) ∧
  (∀ (x0 : Nat) (x1 : Int32) (x2 : Int32) (x3 : Int32) (y0 : Int32) (y1 : Nat) (st : List Value) (h : AH) (Q : Option Value → AH → Prop) (ht : hT h y1 = 100 ∨ hT h y1 = 110) (hi : inb y0 (hL h y1) = true), WP 8 32 [.ref x0, .int x1, .int x2, .int x3, .retAddr 0] (.int y0 :: .ref y1 :: st) h Q ↔ WP 8 33 [.ref x0, .int x1, .int x2, .int x3, .retAddr 0] (.int (hI h y1 y0.toNatClampNeg) :: st) h Q) ∧
  (∀ (x0 : Nat) (x1 : Int32) (x2 : Int32) (x3 : Int32) (st : List Value) (h : AH) (Q : Option Value → AH → Prop), WP 8 33 [.ref x0, .int x1, .int x2, .int x3, .retAddr 0] (st) h Q ↔ WP 8 34 [.ref x0, .int x1, .int x2, .int x3, .retAddr 0] (.int (-1) :: st) h Q) ∧
  (∀ (x0 : Nat) (x1 : Int32) (x2 : Int32) (x3 : Int32) (y0 : Int32) (y1 : Int32) (st : List Value) (h : AH) (Q : Option Value → AH → Prop), WP 8 34 [.ref x0, .int x1, .int x2, .int x3, .retAddr 0] (.int y0 :: .int y1 :: st) h Q ↔ WP 8 35 [.ref x0, .int x1, .int x2, .int x3, .retAddr 0] (.int (y1 ^^^ y0) :: st) h Q) ∧
  (∀ (x0 : Nat) (x1 : Int32) (x2 : Int32) (x3 : Int32) (y0 : Int32) (y1 : Int32) (st : List Value) (h : AH) (Q : Option Value → AH → Prop), WP 8 35 [.ref x0, .int x1, .int x2, .int x3, .retAddr 0] (.int y0 :: .int y1 :: st) h Q ↔ WP 8 36 [.ref x0, .int x1, .int x2, .int x3, .retAddr 0] (.int (y1 &&& y0) :: st) h Q) ∧
  (∀ (x0 : Nat) (x1 : Int32) (x2 : Int32) (x3 : Int32) (st : List Value) (h : AH) (Q : Option Value → AH → Prop), WP 8 36 [.ref x0, .int x1, .int x2, .int x3, .retAddr 0] (st) h Q ↔ WP 8 37 [.ref x0, .int x1, .int x2, .int x3, .retAddr 0] (.ref x0 :: st) h Q) ∧
  (∀ (x0 : Nat) (x1 : Int32) (x2 : Int32) (x3 : Int32) (y0 : Nat) (st : List Value) (h : AH) (Q : Option Value → AH → Prop) (ht : hT h y0 = 1), WP 8 37 [.ref x0, .int x1, .int x2, .int x3, .retAddr 0] (.ref y0 :: st) h Q ↔ WP 8 40 [.ref x0, .int x1, .int x2, .int x3, .retAddr 0] (.ref (hR h y0 6) :: st) h Q) ∧
  (∀ (x0 : Nat) (x1 : Int32) (x2 : Int32) (x3 : Int32) (st : List Value) (h : AH) (Q : Option Value → AH → Prop), WP 8 40 [.ref x0, .int x1, .int x2, .int x3, .retAddr 0] (st) h Q ↔ WP 8 41 [.ref x0, .int x1, .int x2, .int x3, .retAddr 0] (.int x1 :: st) h Q) ∧
  (∀ (x0 : Nat) (x1 : Int32) (x2 : Int32) (x3 : Int32) (y0 : Int32) (y1 : Nat) (st : List Value) (h : AH) (Q : Option Value → AH → Prop) (ht : hT h y1 = 100 ∨ hT h y1 = 110) (hi : inb y0 (hL h y1) = true), WP 8 41 [.ref x0, .int x1, .int x2, .int x3, .retAddr 0] (.int y0 :: .ref y1 :: st) h Q ↔ WP 8 42 [.ref x0, .int x1, .int x2, .int x3, .retAddr 0] (.int (hI h y1 y0.toNatClampNeg) :: st) h Q) ∧
  (∀ (x0 : Nat) (x1 : Int32) (x2 : Int32) (x3 : Int32) (y0 : Int32) (y1 : Int32) (st : List Value) (h : AH) (Q : Option Value → AH → Prop), WP 8 42 [.ref x0, .int x1, .int x2, .int x3, .retAddr 0] (.int y0 :: .int y1 :: st) h Q ↔ WP 8 43 [.ref x0, .int x1, .int x2, .int x3, .retAddr 0] (.int (y1 ||| y0) :: st) h Q) ∧
  (∀ (x0 : Nat) (x1 : Int32) (x2 : Int32) (x3 : Int32) (y0 : Int32) (st : List Value) (h : AH) (Q : Option Value → AH → Prop), WP 8 43 [.ref x0, .int x1, .int x2, .int x3, .retAddr 0] (.int y0 :: st) h Q ↔ WP 8 45 [.ref x0, .int x1, .int x2, .int x3, .int y0] (st) h Q) ∧
  (∀ (x0 : Nat) (x1 : Int32) (x2 : Int32) (x3 : Int32) (x4 : Int32) (st : List Value) (h : AH) (Q : Option Value → AH → Prop), WP 8 45 [.ref x0, .int x1, .int x2, .int x3, .int x4] (st) h Q ↔ WP 8 47 [.ref x0, .int x1, .int x2, .int x3, .int x4] (.int x4 :: st) h Q) ∧
  (∀ (x0 : Nat) (x1 : Int32) (x2 : Int32) (x3 : Int32) (x4 : Int32) (st : List Value) (h : AH) (Q : Option Value → AH → Prop), WP 8 47 [.ref x0, .int x1, .int x2, .int x3, .int x4] (st) h Q ↔ WP 8 48 [.ref x0, .int x1, .int x2, .int x3, .int x4] (.ref x0 :: st) h Q) ∧
  (∀ (x0 : Nat) (x1 : Int32) (x2 : Int32) (x3 : Int32) (x4 : Int32) (y0 : Nat) (st : List Value) (h : AH) (Q : Option Value → AH → Prop) (ht : hT h y0 = 1), WP 8 48 [.ref x0, .int x1, .int x2, .int x3, .int x4] (.ref y0 :: st) h Q ↔ WP 8 51 [.ref x0, .int x1, .int x2, .int x3, .int x4] (.int (hI h y0 1) :: st) h Q) ∧
  (∀ (x0 : Nat) (x1 : Int32) (x2 : Int32) (x3 : Int32) (x4 : Int32) (y0 : Int32) (y1 : Int32) (st : List Value) (h : AH) (Q : Option Value → AH → Prop), WP 8 51 [.ref x0, .int x1, .int x2, .int x3, .int x4] (.int y0 :: .int y1 :: st) h Q ↔ ((y0 ≤ y1 → WP 8 82 [.ref x0, .int x1, .int x2, .int x3, .int x4] (st) h Q) ∧ (¬ y0 ≤ y1 → WP 8 54 [.ref x0, .int x1, .int x2, .int x3, .int x4] (st) h Q))) ∧
  (∀ (x0 : Nat) (x1 : Int32) (x2 : Int32) (x3 : Int32) (x4 : Int32) (st : List Value) (h : AH) (Q : Option Value → AH → Prop), WP 8 54 [.ref x0, .int x1, .int x2, .int x3, .int x4] (st) h Q ↔ WP 8 56 [.ref x0, .int x1, .int x2, .int x3, .int x4] (.int x4 :: st) h Q) ∧
  (∀ (x0 : Nat) (x1 : Int32) (x2 : Int32) (x3 : Int32) (x4 : Int32) (st : List Value) (h : AH) (Q : Option Value → AH → Prop), WP 8 56 [.ref x0, .int x1, .int x2, .int x3, .int x4] (st) h Q ↔ WP 8 57 [.ref x0, .int x1, .int x2, .int x3, .int x4] (.ref x0 :: st) h Q) ∧
  (∀ (x0 : Nat) (x1 : Int32) (x2 : Int32) (x3 : Int32) (x4 : Int32) (y0 : Nat) (st : List Value) (h : AH) (Q : Option Value → AH → Prop) (ht : hT h y0 = 1), WP 8 57 [.ref x0, .int x1, .int x2, .int x3, .int x4] (.ref y0 :: st) h Q ↔ WP 8 60 [.ref x0, .int x1, .int x2, .int x3, .int x4] (.ref (hR h y0 4) :: st) h Q) ∧
  (∀ (x0 : Nat) (x1 : Int32) (x2 : Int32) (x3 : Int32) (x4 : Int32) (st : List Value) (h : AH) (Q : Option Value → AH → Prop), WP 8 60 [.ref x0, .int x1, .int x2, .int x3, .int x4] (st) h Q ↔ WP 8 61 [.ref x0, .int x1, .int x2, .int x3, .int x4] (.int x1 :: st) h Q) :=
  ⟨fun _ _ _ _ _ _ _ => WP_s (show ct 8 0 = some (.iload_n 2, 0, []) by decide +kernel) rfl,
  fun _ _ _ _ _ _ _ => WP_s (show ct 8 1 = some (.aload_n 0, 0, []) by decide +kernel) rfl,
  fun _ _ _ _ _ _ _ _ ht => WH_gR (show ct 8 2 = some (.getfield 21, 1, [0, 5, 2, 362]) by decide +kernel) ht,
  fun _ _ _ _ _ _ _ => WP_s (show ct 8 5 = some (.iload_n 1, 0, []) by decide +kernel) rfl,
  fun _ _ _ _ _ _ _ _ _ ht hi => WH_iald (show ct 8 6 = some (.iaload, 1, []) by decide +kernel) ht hi,
  fun _ _ _ _ _ _ _ => WP_s (show ct 8 7 = some (.aload_n 0, 0, []) by decide +kernel) rfl,
  fun _ _ _ _ _ _ _ _ ht => WH_gR (show ct 8 8 = some (.getfield 24, 1, [0, 6, 2, 363]) by decide +kernel) ht,
  fun _ _ _ _ _ _ _ => WP_s (show ct 8 11 = some (.iload_n 1, 0, []) by decide +kernel) rfl,
  fun _ _ _ _ _ _ _ _ _ ht hi => WH_iald (show ct 8 12 = some (.iaload, 1, []) by decide +kernel) ht hi,
  fun _ _ _ _ _ _ _ _ _ => WP_s (show ct 8 13 = some (.ior, 0, []) by decide +kernel) rfl,
  fun _ _ _ _ _ _ _ _ _ => WP_s (show ct 8 14 = some (.iand, 0, []) by decide +kernel) rfl,
  fun _ _ _ _ _ _ _ => WP_s (show ct 8 15 = some (.aload_n 0, 0, []) by decide +kernel) rfl,
  fun _ _ _ _ _ _ _ _ ht => WH_gR (show ct 8 16 = some (.getfield 21, 1, [0, 5, 2, 362]) by decide +kernel) ht,
  fun _ _ _ _ _ _ _ => WP_s (show ct 8 19 = some (.iload_n 1, 0, []) by decide +kernel) rfl,
  fun _ _ _ _ _ _ _ _ _ ht hi => WH_iald (show ct 8 20 = some (.iaload, 1, []) by decide +kernel) ht hi,
  fun _ _ _ _ _ _ _ _ _ => WI_eq (show ct 8 21 = some (.if_icmp .eq 5, 0, [26]) by decide +kernel) (by decide),
  fun _ _ _ _ _ _ _ => WP_s (show ct 8 24 = some (.iconst (-1), 0, []) by decide +kernel) rfl,
  fun _ _ _ _ _ _ _ => WR_i (show ct 8 25 = some (.ireturn, 2, [0]) by decide +kernel),
  fun _ _ _ _ _ _ _ => WP_s (show ct 8 26 = some (.iload_n 2, 0, []) by decide +kernel) rfl,
  fun _ _ _ _ _ _ _ => WP_s (show ct 8 27 = some (.aload_n 0, 0, []) by decide +kernel) rfl,
  fun _ _ _ _ _ _ _ _ ht => WH_gR (show ct 8 28 = some (.getfield 21, 1, [0, 5, 2, 362]) by decide +kernel) ht,
  fun _ _ _ _ _ _ _ => WP_s (show ct 8 31 = some (.iload_n 1, 0, []) by decide +kernel) rfl,
  fun _ _ _ _ _ _ _ _ _ ht hi => WH_iald (show ct 8 32 = some (.iaload, 1, []) by decide +kernel) ht hi,
  fun _ _ _ _ _ _ _ => WP_s (show ct 8 33 = some (.iconst (-1), 0, []) by decide +kernel) rfl,
  fun _ _ _ _ _ _ _ _ _ => WP_s (show ct 8 34 = some (.ixor, 0, []) by decide +kernel) rfl,
  fun _ _ _ _ _ _ _ _ _ => WP_s (show ct 8 35 = some (.iand, 0, []) by decide +kernel) rfl,
  fun _ _ _ _ _ _ _ => WP_s (show ct 8 36 = some (.aload_n 0, 0, []) by decide +kernel) rfl,
  fun _ _ _ _ _ _ _ _ ht => WH_gR (show ct 8 37 = some (.getfield 24, 1, [0, 6, 2, 363]) by decide +kernel) ht,
  fun _ _ _ _ _ _ _ => WP_s (show ct 8 40 = some (.iload_n 1, 0, []) by decide +kernel) rfl,
  fun _ _ _ _ _ _ _ _ _ ht hi => WH_iald (show ct 8 41 = some (.iaload, 1, []) by decide +kernel) ht hi,
  fun _ _ _ _ _ _ _ _ _ => WP_s (show ct 8 42 = some (.ior, 0, []) by decide +kernel) rfl,
  fun _ _ _ _ _ _ _ _ => WP_s (show ct 8 43 = some (.istore 4, 0, []) by decide +kernel) rfl,
  fun _ _ _ _ _ _ _ _ => WP_s (show ct 8 45 = some (.iload 4, 0, []) by decide +kernel) rfl,
  fun _ _ _ _ _ _ _ _ => WP_s (show ct 8 47 = some (.aload_n 0, 0, []) by decide +kernel) rfl,
  fun _ _ _ _ _ _ _ _ _ ht => WH_gI (show ct 8 48 = some (.getfield 37, 1, [0, 1, 0, 355]) by decide +kernel) (by decide) ht,
  fun _ _ _ _ _ _ _ _ _ _ => WI_ge (show ct 8 51 = some (.if_icmp .ge 31, 0, [82]) by decide +kernel) (by decide),
  fun _ _ _ _ _ _ _ _ => WP_s (show ct 8 54 = some (.iload 4, 0, []) by decide +kernel) rfl,
  fun _ _ _ _ _ _ _ _ => WP_s (show ct 8 56 = some (.aload_n 0, 0, []) by decide +kernel) rfl,
  fun _ _ _ _ _ _ _ _ _ ht => WH_gR (show ct 8 57 = some (.getfield 18, 1, [0, 4, 2, 361]) by decide +kernel) ht,
  fun _ _ _ _ _ _ _ _ => WP_s (show ct 8 60 = some (.iload_n 1, 0, []) by decide +kernel) rfl⟩
set_option maxRecDepth 10000 in
theorem w8_b : (∀ (x0 : Nat) (x1 : Int32) (x2 : Int32) (x3 : Int32) (x4 : Int32) (y0 : Int32) (y1 : Nat) (st : List Value) (h : AH) (Q : Option Value → AH → Prop) (ht : hT h y1 = 100 ∨ hT h y1 = 110) (hi : inb y0 (hL h y1) = true), WP 8 61 [.ref x0, .int x1, .int x2, .int x3, .int x4] (.int y0 :: .ref y1 :: st) h Q ↔ WP 8 62 [.ref x0, .int x1, .int x2, .int x3, .int x4] (.int (hI h y1 y0.toNatClampNeg) :: st) h Q) ∧
  (∀ (x0 : Nat) (x1 : Int32) (x2 : Int32) (x3 : Int32) (x4 : Int32) (y1 : Int32) (y0 : Int32) (h : AH) (Q : Option Value → AH → Prop), WP 8 62 [.ref x0, .int x1, .int x2, .int x3, .int x4] ([.int y0, .int y1]) h Q ↔ WPM 141 [.int y1, .int y0] h (fun r h' => WP 8 65 [.ref x0, .int x1, .int x2, .int x3, .int x4] (r.toList ++ []) h' Q)) ∧
  (∀ (x0 : Nat) (x1 : Int32) (x2 : Int32) (x3 : Int32) (x4 : Int32) (y0 : Int32) (st : List Value) (h : AH) (Q : Option Value → AH → Prop), WP 8 65 [.ref x0, .int x1, .int x2, .int x3, .int x4] (.int y0 :: st) h Q ↔ ((y0 = 0 → WP 8 82 [.ref x0, .int x1, .int x2, .int x3, .int x4] (st) h Q) ∧ (¬ y0 = 0 → WP 8 68 [.ref x0, .int x1, .int x2, .int x3, .int x4] (st) h Q))) ∧
  (∀ (x0 : Nat) (x1 : Int32) (x2 : Int32) (x3 : Int32) (x4 : Int32) (st : List Value) (h : AH) (Q : Option Value → AH → Prop), WP 8 68 [.ref x0, .int x1, .int x2, .int x3, .int x4] (st) h Q ↔ WP 8 70 [.ref x0, .int x1, .int x2, .int x3, .int x4] (.int x4 :: st) h Q) ∧
  (∀ (x0 : Nat) (x1 : Int32) (x2 : Int32) (x3 : Int32) (x4 : Int32) (y0 : Int32) (h : AH) (Q : Option Value → AH → Prop), WP 8 70 [.ref x0, .int x1, .int x2, .int x3, .int x4] ([.int y0]) h Q ↔ WPM 218 [.int y0] h (fun r h' => WP 8 73 [.ref x0, .int x1, .int x2, .int x3, .int x4] (r.toList ++ []) h' Q)) ∧
  (∀ (x0 : Nat) (x1 : Int32) (x2 : Int32) (x3 : Int32) (x4 : Int32) (st : List Value) (h : AH) (Q : Option Value → AH → Prop), WP 8 73 [.ref x0, .int x1, .int x2, .int x3, .int x4] (st) h Q ↔ WP 8 74 [.ref x0, .int x1, .int x2, .int x3, .int x4] (.int x3 :: st) h Q) ∧
  (∀ (x0 : Nat) (x1 : Int32) (x2 : Int32) (x3 : Int32) (x4 : Int32) (y0 : Int32) (y1 : Int32) (st : List Value) (h : AH) (Q : Option Value → AH → Prop), WP 8 74 [.ref x0, .int x1, .int x2, .int x3, .int x4] (.int y0 :: .int y1 :: st) h Q ↔ ((y0 < y1 → WP 8 82 [.ref x0, .int x1, .int x2, .int x3, .int x4] (st) h Q) ∧ (¬ y0 < y1 → WP 8 77 [.ref x0, .int x1, .int x2, .int x3, .int x4] (st) h Q))) ∧
  (∀ (x0 : Nat) (x1 : Int32) (x2 : Int32) (x3 : Int32) (x4 : Int32) (st : List Value) (h : AH) (Q : Option Value → AH → Prop), WP 8 77 [.ref x0, .int x1, .int x2, .int x3, .int x4] (st) h Q ↔ WP 8 79 [.ref x0, .int x1, .int x2, .int x3, .int x4] (.int x4 :: st) h Q) ∧
  (∀ (x0 : Nat) (x1 : Int32) (x2 : Int32) (x3 : Int32) (x4 : Int32) (st : List Value) (h : AH) (Q : Option Value → AH → Prop), WP 8 79 [.ref x0, .int x1, .int x2, .int x3, .int x4] (st) h Q ↔ WP 8 83 [.ref x0, .int x1, .int x2, .int x3, .int x4] (st) h Q) ∧
  (∀ (x0 : Nat) (x1 : Int32) (x2 : Int32) (x3 : Int32) (x4 : Int32) (st : List Value) (h : AH) (Q : Option Value → AH → Prop), WP 8 82 [.ref x0, .int x1, .int x2, .int x3, .int x4] (st) h Q ↔ WP 8 83 [.ref x0, .int x1, .int x2, .int x3, .int x4] (.int (-1) :: st) h Q) ∧
  (∀ (x0 : Nat) (x1 : Int32) (x2 : Int32) (x3 : Int32) (x4 : Int32) (y0 : Int32) (h : AH) (Q : Option Value → AH → Prop), WP 8 83 [.ref x0, .int x1, .int x2, .int x3, .int x4] ([.int y0]) h Q ↔ Q (some (.int y0)) h) :=
  ⟨fun _ _ _ _ _ _ _ _ _ _ ht hi => WH_iald (show ct 8 61 = some (.iaload, 1, []) by decide +kernel) ht hi,
  fun _ _ _ _ _ _ _ _ _ => WC_0 (show ct 8 62 = some (.invokestatic 70, 3, [141, 2, 0, 0, 1, 877, 834, 0]) by decide +kernel) (Nat.le_of_ble_eq_true rfl) (Nat.le_of_ble_eq_true rfl) rfl rfl,
  fun _ _ _ _ _ _ _ _ _ => WZ_eq (show ct 8 65 = some (.ifCond .eq 17, 0, [82]) by decide +kernel) (by decide),
  fun _ _ _ _ _ _ _ _ => WP_s (show ct 8 68 = some (.iload 4, 0, []) by decide +kernel) rfl,
  fun _ _ _ _ _ _ _ _ => WC_0 (show ct 8 70 = some (.invokestatic 64, 3, [218, 1, 0, 0, 0, 829, 699, 0]) by decide +kernel) (Nat.le_of_ble_eq_true rfl) (Nat.le_of_ble_eq_true rfl) rfl rfl,
  fun _ _ _ _ _ _ _ _ => WP_s (show ct 8 73 = some (.iload_n 3, 0, []) by decide +kernel) rfl,
  fun _ _ _ _ _ _ _ _ _ _ => WI_gt (show ct 8 74 = some (.if_icmp .gt 8, 0, [82]) by decide +kernel) (by decide),
  fun _ _ _ _ _ _ _ _ => WP_s (show ct 8 77 = some (.iload 4, 0, []) by decide +kernel) rfl,
  fun _ _ _ _ _ _ _ _ => WP_s (show ct 8 79 = some (.goto 4, 0, [83]) by decide +kernel) rfl,
  fun _ _ _ _ _ _ _ _ => WP_s (show ct 8 82 = some (.iconst (-1), 0, []) by decide +kernel) rfl,
  fun _ _ _ _ _ _ _ _ => WR_i (show ct 8 83 = some (.ireturn, 2, [0]) by decide +kernel)⟩
/-- all of 8 -/
def w8_n : Nat := 2

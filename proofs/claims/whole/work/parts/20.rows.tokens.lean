/-! 92: FewBowls$Tokens.<init>()V; loop heads [] -/
set_option maxRecDepth 10000 in
theorem w92_a : (∀ (x0 : Nat) (st : List Value) (h : AH) (Q : Option Value → AH → Prop), WP 92 0 [.ref x0] (st) h Q ↔ WP 92 1 [.ref x0] (.ref x0 :: st) h Q) ∧
  (∀ (x0 : Nat) (y0 : Nat) (h : AH) (Q : Option Value → AH → Prop) (h0 : y0 ≠ 0), WP 92 1 [.ref x0] ([.ref y0]) h Q ↔ WP 92 4 [.ref x0] ([]) h Q) ∧
  (∀ (x0 : Nat) (st : List Value) (h : AH) (Q : Option Value → AH → Prop), WP 92 4 [.ref x0] (st) h Q ↔ WP 92 5 [.ref x0] (.ref x0 :: st) h Q) ∧
  (∀ (x0 : Nat) (st : List Value) (h : AH) (Q : Option Value → AH → Prop), WP 92 5 [.ref x0] (st) h Q ↔ WP 92 7 [.ref x0] (.int (7) :: st) h Q) ∧
  (∀ (x0 : Nat) (y0 : Int32) (st : List Value) (h : AH) (Q : Option Value → AH → Prop) (h0 : 0 ≤ y0) (h1 : y0.toNatClampNeg ≤ 1048576), WP 92 7 [.ref x0] (.int y0 :: st) h Q ↔ WP 92 9 [.ref x0] (.ref (hN h) :: st) (nw h 100 y0.toNatClampNeg y0.toNatClampNeg) Q) ∧
  (∀ (x0 : Nat) (y0 : Nat) (st : List Value) (h : AH) (Q : Option Value → AH → Prop), WP 92 9 [.ref x0] (.ref y0 :: st) h Q ↔ WP 92 10 [.ref x0] (.ref y0 :: .ref y0 :: st) h Q) ∧
  (∀ (x0 : Nat) (st : List Value) (h : AH) (Q : Option Value → AH → Prop), WP 92 10 [.ref x0] (st) h Q ↔ WP 92 11 [.ref x0] (.int (0) :: st) h Q) ∧
  (∀ (x0 : Nat) (y3 : Nat) (y2 : Nat) (y1 : Nat) (y0 : Int32) (h : AH) (Q : Option Value → AH → Prop), WP 92 11 [.ref x0] ([.int y0, .ref y1, .ref y2, .ref y3]) h Q ↔ WP 92 16 [.ref x0] ([.int (nI 13172), .int y0, .ref y1, .ref y2, .ref y3]) h Q) ∧
  (∀ (x0 : Nat) (y0 : Int32) (y1 : Int32) (y2 : Nat) (st : List Value) (h : AH) (Q : Option Value → AH → Prop) (ht : hT h y2 = 100) (hi : inb y1 (hL h y2) = true), WP 92 16 [.ref x0] (.int y0 :: .int y1 :: .ref y2 :: st) h Q ↔ WP 92 17 [.ref x0] (st) (sI h y2 y1.toNatClampNeg y0) Q) ∧
  (∀ (x0 : Nat) (y0 : Nat) (st : List Value) (h : AH) (Q : Option Value → AH → Prop), WP 92 17 [.ref x0] (.ref y0 :: st) h Q ↔ WP 92 18 [.ref x0] (.ref y0 :: .ref y0 :: st) h Q) ∧
  (∀ (x0 : Nat) (st : List Value) (h : AH) (Q : Option Value → AH → Prop), WP 92 18 [.ref x0] (st) h Q ↔ WP 92 19 [.ref x0] (.int (1) :: st) h Q) ∧
  (∀ (x0 : Nat) (y3 : Nat) (y2 : Nat) (y1 : Nat) (y0 : Int32) (h : AH) (Q : Option Value → AH → Prop), WP 92 19 [.ref x0] ([.int y0, .ref y1, .ref y2, .ref y3]) h Q ↔ WP 92 24 [.ref x0] ([.int (nI 256910), .int y0, .ref y1, .ref y2, .ref y3]) h Q) ∧
  (∀ (x0 : Nat) (y0 : Int32) (y1 : Int32) (y2 : Nat) (st : List Value) (h : AH) (Q : Option Value → AH → Prop) (ht : hT h y2 = 100) (hi : inb y1 (hL h y2) = true), WP 92 24 [.ref x0] (.int y0 :: .int y1 :: .ref y2 :: st) h Q ↔ WP 92 25 [.ref x0] (st) (sI h y2 y1.toNatClampNeg y0) Q) ∧
  (∀ (x0 : Nat) (y0 : Nat) (st : List Value) (h : AH) (Q : Option Value → AH → Prop), WP 92 25 [.ref x0] (.ref y0 :: st) h Q ↔ WP 92 26 [.ref x0] (.ref y0 :: .ref y0 :: st) h Q) ∧
  (∀ (x0 : Nat) (st : List Value) (h : AH) (Q : Option Value → AH → Prop), WP 92 26 [.ref x0] (st) h Q ↔ WP 92 27 [.ref x0] (.int (2) :: st) h Q) ∧
  (∀ (x0 : Nat) (y3 : Nat) (y2 : Nat) (y1 : Nat) (y0 : Int32) (h : AH) (Q : Option Value → AH → Prop), WP 92 27 [.ref x0] ([.int y0, .ref y1, .ref y2, .ref y3]) h Q ↔ WP 92 32 [.ref x0] ([.int (nI 411), .int y0, .ref y1, .ref y2, .ref y3]) h Q) ∧
  (∀ (x0 : Nat) (y0 : Int32) (y1 : Int32) (y2 : Nat) (st : List Value) (h : AH) (Q : Option Value → AH → Prop) (ht : hT h y2 = 100) (hi : inb y1 (hL h y2) = true), WP 92 32 [.ref x0] (.int y0 :: .int y1 :: .ref y2 :: st) h Q ↔ WP 92 33 [.ref x0] (st) (sI h y2 y1.toNatClampNeg y0) Q) ∧
  (∀ (x0 : Nat) (y0 : Nat) (st : List Value) (h : AH) (Q : Option Value → AH → Prop), WP 92 33 [.ref x0] (.ref y0 :: st) h Q ↔ WP 92 34 [.ref x0] (.ref y0 :: .ref y0 :: st) h Q) ∧
  (∀ (x0 : Nat) (st : List Value) (h : AH) (Q : Option Value → AH → Prop), WP 92 34 [.ref x0] (st) h Q ↔ WP 92 35 [.ref x0] (.int (3) :: st) h Q) ∧
  (∀ (x0 : Nat) (y3 : Nat) (y2 : Nat) (y1 : Nat) (y0 : Int32) (h : AH) (Q : Option Value → AH → Prop), WP 92 35 [.ref x0] ([.int y0, .ref y1, .ref y2, .ref y3]) h Q ↔ WP 92 40 [.ref x0] ([.int (nI 1903978), .int y0, .ref y1, .ref y2, .ref y3]) h Q) ∧
  (∀ (x0 : Nat) (y0 : Int32) (y1 : Int32) (y2 : Nat) (st : List Value) (h : AH) (Q : Option Value → AH → Prop) (ht : hT h y2 = 100) (hi : inb y1 (hL h y2) = true), WP 92 40 [.ref x0] (.int y0 :: .int y1 :: .ref y2 :: st) h Q ↔ WP 92 41 [.ref x0] (st) (sI h y2 y1.toNatClampNeg y0) Q) ∧
  (∀ (x0 : Nat) (y0 : Nat) (st : List Value) (h : AH) (Q : Option Value → AH → Prop), WP 92 41 [.ref x0] (.ref y0 :: st) h Q ↔ WP 92 42 [.ref x0] (.ref y0 :: .ref y0 :: st) h Q) ∧
  (∀ (x0 : Nat) (st : List Value) (h : AH) (Q : Option Value → AH → Prop), WP 92 42 [.ref x0] (st) h Q ↔ WP 92 43 [.ref x0] (.int (4) :: st) h Q) ∧
  (∀ (x0 : Nat) (y3 : Nat) (y2 : Nat) (y1 : Nat) (y0 : Int32) (h : AH) (Q : Option Value → AH → Prop), WP 92 43 [.ref x0] ([.int y0, .ref y1, .ref y2, .ref y3]) h Q ↔ WP 92 48 [.ref x0] ([.int (nI 459791), .int y0, .ref y1, .ref y2, .ref y3]) h Q) ∧
  (∀ (x0 : Nat) (y0 : Int32) (y1 : Int32) (y2 : Nat) (st : List Value) (h : AH) (Q : Option Value → AH → Prop) (ht : hT h y2 = 100) (hi : inb y1 (hL h y2) = true), WP 92 48 [.ref x0] (.int y0 :: .int y1 :: .ref y2 :: st) h Q ↔ WP 92 49 [.ref x0] (st) (sI h y2 y1.toNatClampNeg y0) Q) ∧
  (∀ (x0 : Nat) (y0 : Nat) (st : List Value) (h : AH) (Q : Option Value → AH → Prop), WP 92 49 [.ref x0] (.ref y0 :: st) h Q ↔ WP 92 50 [.ref x0] (.ref y0 :: .ref y0 :: st) h Q) ∧
  (∀ (x0 : Nat) (st : List Value) (h : AH) (Q : Option Value → AH → Prop), WP 92 50 [.ref x0] (st) h Q ↔ WP 92 51 [.ref x0] (.int (5) :: st) h Q) ∧
  (∀ (x0 : Nat) (y3 : Nat) (y2 : Nat) (y1 : Nat) (y0 : Int32) (h : AH) (Q : Option Value → AH → Prop), WP 92 51 [.ref x0] ([.int y0, .ref y1, .ref y2, .ref y3]) h Q ↔ WP 92 56 [.ref x0] ([.int (nI 453959), .int y0, .ref y1, .ref y2, .ref y3]) h Q) ∧
  (∀ (x0 : Nat) (y0 : Int32) (y1 : Int32) (y2 : Nat) (st : List Value) (h : AH) (Q : Option Value → AH → Prop) (ht : hT h y2 = 100) (hi : inb y1 (hL h y2) = true), WP 92 56 [.ref x0] (.int y0 :: .int y1 :: .ref y2 :: st) h Q ↔ WP 92 57 [.ref x0] (st) (sI h y2 y1.toNatClampNeg y0) Q) ∧
  (∀ (x0 : Nat) (y0 : Nat) (st : List Value) (h : AH) (Q : Option Value → AH → Prop), WP 92 57 [.ref x0] (.ref y0 :: st) h Q ↔ WP 92 58 [.ref x0] (.ref y0 :: .ref y0 :: st) h Q) ∧
  (∀ (x0 : Nat) (st : List Value) (h : AH) (Q : Option Value → AH → Prop), WP 92 58 [.ref x0] (st) h Q ↔ WP 92 60 [.ref x0] (.int (6) :: st) h Q) ∧
  (∀ (x0 : Nat) (y3 : Nat) (y2 : Nat) (y1 : Nat) (y0 : Int32) (h : AH) (Q : Option Value → AH → Prop), WP 92 60 [.ref x0] ([.int y0, .ref y1, .ref y2, .ref y3]) h Q ↔ WP 92 65 [.ref x0] ([.int (nI 257), .int y0, .ref y1, .ref y2, .ref y3]) h Q) ∧
  (∀ (x0 : Nat) (y0 : Int32) (y1 : Int32) (y2 : Nat) (st : List Value) (h : AH) (Q : Option Value → AH → Prop) (ht : hT h y2 = 100) (hi : inb y1 (hL h y2) = true), WP 92 65 [.ref x0] (.int y0 :: .int y1 :: .ref y2 :: st) h Q ↔ WP 92 66 [.ref x0] (st) (sI h y2 y1.toNatClampNeg y0) Q) ∧
  (∀ (x0 : Nat) (y0 : Nat) (y1 : Nat) (st : List Value) (h : AH) (Q : Option Value → AH → Prop) (ht : hT h y1 = 11), WP 92 66 [.ref x0] (.ref y0 :: .ref y1 :: st) h Q ↔ WP 92 69 [.ref x0] (st) (sR h y1 0 y0) Q) ∧
  (∀ (x0 : Nat) (st : List Value) (h : AH) (Q : Option Value → AH → Prop), WP 92 69 [.ref x0] (st) h Q ↔ WP 92 70 [.ref x0] (.ref x0 :: st) h Q) ∧
  (∀ (x0 : Nat) (st : List Value) (h : AH) (Q : Option Value → AH → Prop), WP 92 70 [.ref x0] (st) h Q ↔ WP 92 71 [.ref x0] (.int (0) :: st) h Q) ∧
  (∀ (x0 : Nat) (y0 : Int32) (st : List Value) (h : AH) (Q : Option Value → AH → Prop) (h0 : 0 ≤ y0) (h1 : y0.toNatClampNeg ≤ 1048576), WP 92 71 [.ref x0] (.int y0 :: st) h Q ↔ WP 92 73 [.ref x0] (.ref (hN h) :: st) (nw h 101 y0.toNatClampNeg y0.toNatClampNeg) Q) ∧
  (∀ (x0 : Nat) (y0 : Nat) (y1 : Nat) (st : List Value) (h : AH) (Q : Option Value → AH → Prop) (ht : hT h y1 = 11), WP 92 73 [.ref x0] (.ref y0 :: .ref y1 :: st) h Q ↔ WP 92 76 [.ref x0] (st) (sR h y1 1 y0) Q) ∧
  (∀ (x0 : Nat) (st : List Value) (h : AH) (Q : Option Value → AH → Prop), WP 92 76 [.ref x0] (st) h Q ↔ WP 92 77 [.ref x0] (.ref x0 :: st) h Q) ∧
  (∀ (x0 : Nat) (st : List Value) (h : AH) (Q : Option Value → AH → Prop), WP 92 77 [.ref x0] (st) h Q ↔ WP 92 79 [.ref x0] (.int (10) :: st) h Q) :=
  ⟨fun _ _ _ _ => WP_s (show ct 92 0 = some (.aload_n 0, 0, []) by decide +kernel) rfl,
  fun _ _ _ _ h0 => WH_obj (show ct 92 1 = some (.invokespecial 3, 1, [221, 124, 125]) by decide +kernel) h0 (Nat.le_of_ble_eq_true rfl),
  fun _ _ _ _ => WP_s (show ct 92 4 = some (.aload_n 0, 0, []) by decide +kernel) rfl,
  fun _ _ _ _ => WP_s (show ct 92 5 = some (.bipush 7, 0, []) by decide +kernel) rfl,
  fun _ _ _ _ _ h0 h1 => WH_newa (show ct 92 7 = some (.newarray .int, 1, [100, 209]) by decide +kernel) (by decide) h0 h1,
  fun _ _ _ _ _ => WP_s (show ct 92 9 = some (.dup, 0, []) by decide +kernel) rfl,
  fun _ _ _ _ => WP_s (show ct 92 10 = some (.iconst 0, 0, []) by decide +kernel) rfl,
  fun _ _ _ _ _ _ _ => WP_4 (k := 0) (show ct 92 11 = some (.ldc 9, 4, [13172, 16]) by decide +kernel) (Nat.le_of_ble_eq_true rfl),
  fun _ _ _ _ _ _ _ ht hi => WH_iast (show ct 92 16 = some (.iastore, 1, []) by decide +kernel) ht hi,
  fun _ _ _ _ _ => WP_s (show ct 92 17 = some (.dup, 0, []) by decide +kernel) rfl,
  fun _ _ _ _ => WP_s (show ct 92 18 = some (.iconst 1, 0, []) by decide +kernel) rfl,
  fun _ _ _ _ _ _ _ => WP_4 (k := 0) (show ct 92 19 = some (.ldc 17, 4, [256910, 24]) by decide +kernel) (Nat.le_of_ble_eq_true rfl),
  fun _ _ _ _ _ _ _ ht hi => WH_iast (show ct 92 24 = some (.iastore, 1, []) by decide +kernel) ht hi,
  fun _ _ _ _ _ => WP_s (show ct 92 25 = some (.dup, 0, []) by decide +kernel) rfl,
  fun _ _ _ _ => WP_s (show ct 92 26 = some (.iconst 2, 0, []) by decide +kernel) rfl,
  fun _ _ _ _ _ _ _ => WP_4 (k := 0) (show ct 92 27 = some (.ldc 19, 4, [411, 32]) by decide +kernel) (Nat.le_of_ble_eq_true rfl),
  fun _ _ _ _ _ _ _ ht hi => WH_iast (show ct 92 32 = some (.iastore, 1, []) by decide +kernel) ht hi,
  fun _ _ _ _ _ => WP_s (show ct 92 33 = some (.dup, 0, []) by decide +kernel) rfl,
  fun _ _ _ _ => WP_s (show ct 92 34 = some (.iconst 3, 0, []) by decide +kernel) rfl,
  fun _ _ _ _ _ _ _ => WP_4 (k := 0) (show ct 92 35 = some (.ldc 21, 4, [1903978, 40]) by decide +kernel) (Nat.le_of_ble_eq_true rfl),
  fun _ _ _ _ _ _ _ ht hi => WH_iast (show ct 92 40 = some (.iastore, 1, []) by decide +kernel) ht hi,
  fun _ _ _ _ _ => WP_s (show ct 92 41 = some (.dup, 0, []) by decide +kernel) rfl,
  fun _ _ _ _ => WP_s (show ct 92 42 = some (.iconst 4, 0, []) by decide +kernel) rfl,
  fun _ _ _ _ _ _ _ => WP_4 (k := 0) (show ct 92 43 = some (.ldc 23, 4, [459791, 48]) by decide +kernel) (Nat.le_of_ble_eq_true rfl),
  fun _ _ _ _ _ _ _ ht hi => WH_iast (show ct 92 48 = some (.iastore, 1, []) by decide +kernel) ht hi,
  fun _ _ _ _ _ => WP_s (show ct 92 49 = some (.dup, 0, []) by decide +kernel) rfl,
  fun _ _ _ _ => WP_s (show ct 92 50 = some (.iconst 5, 0, []) by decide +kernel) rfl,
  fun _ _ _ _ _ _ _ => WP_4 (k := 0) (show ct 92 51 = some (.ldc 25, 4, [453959, 56]) by decide +kernel) (Nat.le_of_ble_eq_true rfl),
  fun _ _ _ _ _ _ _ ht hi => WH_iast (show ct 92 56 = some (.iastore, 1, []) by decide +kernel) ht hi,
  fun _ _ _ _ _ => WP_s (show ct 92 57 = some (.dup, 0, []) by decide +kernel) rfl,
  fun _ _ _ _ => WP_s (show ct 92 58 = some (.bipush 6, 0, []) by decide +kernel) rfl,
  fun _ _ _ _ _ _ _ => WP_4 (k := 0) (show ct 92 60 = some (.ldc 27, 4, [257, 65]) by decide +kernel) (Nat.le_of_ble_eq_true rfl),
  fun _ _ _ _ _ _ _ ht hi => WH_iast (show ct 92 65 = some (.iastore, 1, []) by decide +kernel) ht hi,
  fun _ _ _ _ _ _ ht => WH_pR (show ct 92 66 = some (.putfield 29, 1, [10, 0, 2, 1, 280]) by decide +kernel) ht,
  fun _ _ _ _ => WP_s (show ct 92 69 = some (.aload_n 0, 0, []) by decide +kernel) rfl,
  fun _ _ _ _ => WP_s (show ct 92 70 = some (.iconst 0, 0, []) by decide +kernel) rfl,
  fun _ _ _ _ _ h0 h1 => WH_newa (show ct 92 71 = some (.newarray .byte, 1, [101, 208]) by decide +kernel) (by decide) h0 h1,
  fun _ _ _ _ _ _ ht => WH_pR (show ct 92 73 = some (.putfield 33, 1, [10, 1, 2, 0, 281]) by decide +kernel) ht,
  fun _ _ _ _ => WP_s (show ct 92 76 = some (.aload_n 0, 0, []) by decide +kernel) rfl,
  fun _ _ _ _ => WP_s (show ct 92 77 = some (.bipush 10, 0, []) by decide +kernel) rfl⟩
set_option maxRecDepth 10000 in
theorem w92_b : (∀ (x0 : Nat) (y0 : Int32) (y1 : Nat) (st : List Value) (h : AH) (Q : Option Value → AH → Prop) (ht : hT h y1 = 11), WP 92 79 [.ref x0] (.int y0 :: .ref y1 :: st) h Q ↔ WP 92 82 [.ref x0] (st) (sI h y1 4 y0) Q) ∧
  (∀ (x0 : Nat) (h : AH) (Q : Option Value → AH → Prop), WP 92 82 [.ref x0] ([]) h Q ↔ Q none h) :=
  ⟨fun _ _ _ _ _ _ ht => WH_pI (show ct 92 79 = some (.putfield 37, 1, [10, 4, 0, 0, 284]) by decide +kernel) ht,
  fun _ _ _ => WR_v (show ct 92 82 = some (.return_, 2, [0]) by decide +kernel)⟩
/-- all of 92 -/
def w92_n : Nat := 2
/-! 93: FewBowls$Tokens.start([BI)V; loop heads [] -/
set_option maxRecDepth 10000 in
theorem w93 : (∀ (x0 : Nat) (x1 : Nat) (x2 : Int32) (st : List Value) (h : AH) (Q : Option Value → AH → Prop), WP 93 0 [.ref x0, .ref x1, .int x2] (st) h Q ↔ WP 93 1 [.ref x0, .ref x1, .int x2] (.ref x0 :: st) h Q) ∧
  (∀ (x0 : Nat) (x1 : Nat) (x2 : Int32) (st : List Value) (h : AH) (Q : Option Value → AH → Prop), WP 93 1 [.ref x0, .ref x1, .int x2] (st) h Q ↔ WP 93 2 [.ref x0, .ref x1, .int x2] (.ref x1 :: st) h Q) ∧
  (∀ (x0 : Nat) (x1 : Nat) (x2 : Int32) (y0 : Nat) (y1 : Nat) (st : List Value) (h : AH) (Q : Option Value → AH → Prop) (ht : hT h y1 = 11), WP 93 2 [.ref x0, .ref x1, .int x2] (.ref y0 :: .ref y1 :: st) h Q ↔ WP 93 5 [.ref x0, .ref x1, .int x2] (st) (sR h y1 1 y0) Q) ∧
  (∀ (x0 : Nat) (x1 : Nat) (x2 : Int32) (st : List Value) (h : AH) (Q : Option Value → AH → Prop), WP 93 5 [.ref x0, .ref x1, .int x2] (st) h Q ↔ WP 93 6 [.ref x0, .ref x1, .int x2] (.ref x0 :: st) h Q) ∧
  (∀ (x0 : Nat) (x1 : Nat) (x2 : Int32) (st : List Value) (h : AH) (Q : Option Value → AH → Prop), WP 93 6 [.ref x0, .ref x1, .int x2] (st) h Q ↔ WP 93 7 [.ref x0, .ref x1, .int x2] (.int x2 :: st) h Q) ∧
  (∀ (x0 : Nat) (x1 : Nat) (x2 : Int32) (st : List Value) (h : AH) (Q : Option Value → AH → Prop), WP 93 7 [.ref x0, .ref x1, .int x2] (st) h Q ↔ WP 93 8 [.ref x0, .ref x1, .int x2] (.ref x1 :: st) h Q) ∧
  (∀ (x0 : Nat) (x1 : Nat) (x2 : Int32) (y0 : Nat) (st : List Value) (h : AH) (Q : Option Value → AH → Prop) (ht : hT h y0 = 100 ∨ hT h y0 = 101 ∨ hT h y0 = 102 ∨ hT h y0 = 103 ∨ hT h y0 = 110), WP 93 8 [.ref x0, .ref x1, .int x2] (.ref y0 :: st) h Q ↔ WP 93 9 [.ref x0, .ref x1, .int x2] (.int (nI (hL h y0)) :: st) h Q) ∧
  (∀ (x0 : Nat) (x1 : Nat) (x2 : Int32) (y2 : Nat) (y1 : Int32) (y0 : Int32) (h : AH) (Q : Option Value → AH → Prop), WP 93 9 [.ref x0, .ref x1, .int x2] ([.int y0, .int y1, .ref y2]) h Q ↔ WP 93 12 [.ref x0, .ref x1, .int x2] ([.int (if y0 < y1 then y0 else y1), .ref y2]) h Q) ∧
  (∀ (x0 : Nat) (x1 : Nat) (x2 : Int32) (y0 : Int32) (y1 : Nat) (st : List Value) (h : AH) (Q : Option Value → AH → Prop) (ht : hT h y1 = 11), WP 93 12 [.ref x0, .ref x1, .int x2] (.int y0 :: .ref y1 :: st) h Q ↔ WP 93 15 [.ref x0, .ref x1, .int x2] (st) (sI h y1 2 y0) Q) ∧
  (∀ (x0 : Nat) (x1 : Nat) (x2 : Int32) (st : List Value) (h : AH) (Q : Option Value → AH → Prop), WP 93 15 [.ref x0, .ref x1, .int x2] (st) h Q ↔ WP 93 16 [.ref x0, .ref x1, .int x2] (.ref x0 :: st) h Q) ∧
  (∀ (x0 : Nat) (x1 : Nat) (x2 : Int32) (st : List Value) (h : AH) (Q : Option Value → AH → Prop), WP 93 16 [.ref x0, .ref x1, .int x2] (st) h Q ↔ WP 93 17 [.ref x0, .ref x1, .int x2] (.int (0) :: st) h Q) ∧
  (∀ (x0 : Nat) (x1 : Nat) (x2 : Int32) (y0 : Int32) (y1 : Nat) (st : List Value) (h : AH) (Q : Option Value → AH → Prop) (ht : hT h y1 = 11), WP 93 17 [.ref x0, .ref x1, .int x2] (.int y0 :: .ref y1 :: st) h Q ↔ WP 93 20 [.ref x0, .ref x1, .int x2] (st) (sI h y1 3 y0) Q) ∧
  (∀ (x0 : Nat) (x1 : Nat) (x2 : Int32) (h : AH) (Q : Option Value → AH → Prop), WP 93 20 [.ref x0, .ref x1, .int x2] ([]) h Q ↔ Q none h) :=
  ⟨fun _ _ _ _ _ _ => WP_s (show ct 93 0 = some (.aload_n 0, 0, []) by decide +kernel) rfl,
  fun _ _ _ _ _ _ => WP_s (show ct 93 1 = some (.aload_n 1, 0, []) by decide +kernel) rfl,
  fun _ _ _ _ _ _ _ _ ht => WH_pR (show ct 93 2 = some (.putfield 33, 1, [10, 1, 2, 0, 281]) by decide +kernel) ht,
  fun _ _ _ _ _ _ => WP_s (show ct 93 5 = some (.aload_n 0, 0, []) by decide +kernel) rfl,
  fun _ _ _ _ _ _ => WP_s (show ct 93 6 = some (.iload_n 2, 0, []) by decide +kernel) rfl,
  fun _ _ _ _ _ _ => WP_s (show ct 93 7 = some (.aload_n 1, 0, []) by decide +kernel) rfl,
  fun _ _ _ _ _ _ _ ht => WH_alen (show ct 93 8 = some (.arraylength, 1, []) by decide +kernel) ht,
  fun _ _ _ _ _ _ _ _ => WH_min (show ct 93 9 = some (.invokestatic 41, 1, [1, 640, 641, 112, 642]) by decide +kernel) (Nat.le_of_ble_eq_true rfl),
  fun _ _ _ _ _ _ _ _ ht => WH_pI (show ct 93 12 = some (.putfield 47, 1, [10, 2, 0, 0, 282]) by decide +kernel) ht,
  fun _ _ _ _ _ _ => WP_s (show ct 93 15 = some (.aload_n 0, 0, []) by decide +kernel) rfl,
  fun _ _ _ _ _ _ => WP_s (show ct 93 16 = some (.iconst 0, 0, []) by decide +kernel) rfl,
  fun _ _ _ _ _ _ _ _ ht => WH_pI (show ct 93 17 = some (.putfield 50, 1, [10, 3, 0, 0, 283]) by decide +kernel) ht,
  fun _ _ _ _ _ => WR_v (show ct 93 20 = some (.return_, 2, [0]) by decide +kernel)⟩
/-! 94: FewBowls$Tokens.tooLong()Z; loop heads [] -/
set_option maxRecDepth 10000 in
theorem w94 : (∀ (x0 : Nat) (st : List Value) (h : AH) (Q : Option Value → AH → Prop), WP 94 0 [.ref x0] (st) h Q ↔ WP 94 1 [.ref x0] (.ref x0 :: st) h Q) ∧
  (∀ (x0 : Nat) (y0 : Nat) (st : List Value) (h : AH) (Q : Option Value → AH → Prop) (ht : hT h y0 = 11), WP 94 1 [.ref x0] (.ref y0 :: st) h Q ↔ WP 94 4 [.ref x0] (.int (hI h y0 2) :: st) h Q) ∧
  (∀ (x0 : Nat) (st : List Value) (h : AH) (Q : Option Value → AH → Prop), WP 94 4 [.ref x0] (st) h Q ↔ WP 94 7 [.ref x0] (.int (500) :: st) h Q) ∧
  (∀ (x0 : Nat) (y0 : Int32) (y1 : Int32) (st : List Value) (h : AH) (Q : Option Value → AH → Prop), WP 94 7 [.ref x0] (.int y0 :: .int y1 :: st) h Q ↔ ((y1 ≤ y0 → WP 94 14 [.ref x0] (st) h Q) ∧ (¬ y1 ≤ y0 → WP 94 10 [.ref x0] (st) h Q))) ∧
  (∀ (x0 : Nat) (st : List Value) (h : AH) (Q : Option Value → AH → Prop), WP 94 10 [.ref x0] (st) h Q ↔ WP 94 11 [.ref x0] (.int (1) :: st) h Q) ∧
  (∀ (x0 : Nat) (st : List Value) (h : AH) (Q : Option Value → AH → Prop), WP 94 11 [.ref x0] (st) h Q ↔ WP 94 15 [.ref x0] (st) h Q) ∧
  (∀ (x0 : Nat) (st : List Value) (h : AH) (Q : Option Value → AH → Prop), WP 94 14 [.ref x0] (st) h Q ↔ WP 94 15 [.ref x0] (.int (0) :: st) h Q) ∧
  (∀ (x0 : Nat) (y0 : Int32) (h : AH) (Q : Option Value → AH → Prop) (hz : y0 = 0 ∨ y0 = 1), WP 94 15 [.ref x0] ([.int y0]) h Q ↔ Q (some (.int y0)) h) :=
  ⟨fun _ _ _ _ => WP_s (show ct 94 0 = some (.aload_n 0, 0, []) by decide +kernel) rfl,
  fun _ _ _ _ _ ht => WH_gI (show ct 94 1 = some (.getfield 47, 1, [10, 2, 0, 282]) by decide +kernel) (by decide) ht,
  fun _ _ _ _ => WP_s (show ct 94 4 = some (.sipush 500, 0, []) by decide +kernel) rfl,
  fun _ _ _ _ _ _ => WI_le (show ct 94 7 = some (.if_icmp .le 7, 0, [14]) by decide +kernel) (by decide),
  fun _ _ _ _ => WP_s (show ct 94 10 = some (.iconst 1, 0, []) by decide +kernel) rfl,
  fun _ _ _ _ => WP_s (show ct 94 11 = some (.goto 4, 0, [15]) by decide +kernel) rfl,
  fun _ _ _ _ => WP_s (show ct 94 14 = some (.iconst 0, 0, []) by decide +kernel) rfl,
  fun _ _ _ _ hz => WR_z (show ct 94 15 = some (.ireturn, 2, [1]) by decide +kernel) hz⟩
/-! 95: FewBowls$Tokens.advance()V; loop heads [11] -/
theorem w95_11 : ∀ (x0 : Nat) (x1 : Int32) (st : List Value) (h : AH) (Q : Option Value → AH → Prop), WP 95 11 [.ref x0, .int x1] (st) h Q ↔ WP 95 12 [.ref x0, .int x1] (.ref x0 :: st) h Q := fun _ _ _ _ _ => WP_s (show ct 95 11 = some (.aload_n 0, 0, []) by decide +kernel) rfl
set_option maxRecDepth 10000 in
theorem w95_a : (∀ (x0 : Nat) (st : List Value) (h : AH) (Q : Option Value → AH → Prop), WP 95 0 [.ref x0, .retAddr 0] (st) h Q ↔ WP 95 1 [.ref x0, .retAddr 0] (.ref x0 :: st) h Q) ∧
  (∀ (x0 : Nat) (y0 : Nat) (st : List Value) (h : AH) (Q : Option Value → AH → Prop) (ht : hT h y0 = 11), WP 95 1 [.ref x0, .retAddr 0] (.ref y0 :: st) h Q ↔ WP 95 4 [.ref x0, .retAddr 0] (.int (hI h y0 2) :: st) h Q) ∧
  (∀ (x0 : Nat) (st : List Value) (h : AH) (Q : Option Value → AH → Prop), WP 95 4 [.ref x0, .retAddr 0] (st) h Q ↔ WP 95 7 [.ref x0, .retAddr 0] (.int (500) :: st) h Q) ∧
  (∀ (x0 : Nat) (y1 : Int32) (y0 : Int32) (h : AH) (Q : Option Value → AH → Prop), WP 95 7 [.ref x0, .retAddr 0] ([.int y0, .int y1]) h Q ↔ WP 95 10 [.ref x0, .retAddr 0] ([.int (if y0 < y1 then y0 else y1)]) h Q) ∧
  (∀ (x0 : Nat) (y0 : Int32) (st : List Value) (h : AH) (Q : Option Value → AH → Prop), WP 95 10 [.ref x0, .retAddr 0] (.int y0 :: st) h Q ↔ WP 95 11 [.ref x0, .int y0] (st) h Q) ∧
  (∀ (x0 : Nat) (x1 : Int32) (y0 : Nat) (st : List Value) (h : AH) (Q : Option Value → AH → Prop) (ht : hT h y0 = 11), WP 95 12 [.ref x0, .int x1] (.ref y0 :: st) h Q ↔ WP 95 15 [.ref x0, .int x1] (.int (hI h y0 3) :: st) h Q) ∧
  (∀ (x0 : Nat) (x1 : Int32) (st : List Value) (h : AH) (Q : Option Value → AH → Prop), WP 95 15 [.ref x0, .int x1] (st) h Q ↔ WP 95 16 [.ref x0, .int x1] (.int x1 :: st) h Q) ∧
  (∀ (x0 : Nat) (x1 : Int32) (y0 : Int32) (y1 : Int32) (st : List Value) (h : AH) (Q : Option Value → AH → Prop), WP 95 16 [.ref x0, .int x1] (.int y0 :: .int y1 :: st) h Q ↔ ((y0 ≤ y1 → WP 95 47 [.ref x0, .int x1] (st) h Q) ∧ (¬ y0 ≤ y1 → WP 95 19 [.ref x0, .int x1] (st) h Q))) ∧
  (∀ (x0 : Nat) (x1 : Int32) (st : List Value) (h : AH) (Q : Option Value → AH → Prop), WP 95 19 [.ref x0, .int x1] (st) h Q ↔ WP 95 20 [.ref x0, .int x1] (.ref x0 :: st) h Q) ∧
  (∀ (x0 : Nat) (x1 : Int32) (y0 : Nat) (st : List Value) (h : AH) (Q : Option Value → AH → Prop) (ht : hT h y0 = 11), WP 95 20 [.ref x0, .int x1] (.ref y0 :: st) h Q ↔ WP 95 23 [.ref x0, .int x1] (.ref (hR h y0 1) :: st) h Q) ∧
  (∀ (x0 : Nat) (x1 : Int32) (st : List Value) (h : AH) (Q : Option Value → AH → Prop), WP 95 23 [.ref x0, .int x1] (st) h Q ↔ WP 95 24 [.ref x0, .int x1] (.ref x0 :: st) h Q) ∧
  (∀ (x0 : Nat) (x1 : Int32) (y0 : Nat) (st : List Value) (h : AH) (Q : Option Value → AH → Prop) (ht : hT h y0 = 11), WP 95 24 [.ref x0, .int x1] (.ref y0 :: st) h Q ↔ WP 95 27 [.ref x0, .int x1] (.int (hI h y0 3) :: st) h Q) ∧
  (∀ (x0 : Nat) (x1 : Int32) (y0 : Int32) (y1 : Nat) (st : List Value) (h : AH) (Q : Option Value → AH → Prop) (ht : hT h y1 = 101 ∨ hT h y1 = 102) (hi : inb y0 (hL h y1) = true), WP 95 27 [.ref x0, .int x1] (.int y0 :: .ref y1 :: st) h Q ↔ WP 95 28 [.ref x0, .int x1] (.int (hI h y1 y0.toNatClampNeg) :: st) h Q) ∧
  (∀ (x0 : Nat) (x1 : Int32) (y0 : Int32) (h : AH) (Q : Option Value → AH → Prop), WP 95 28 [.ref x0, .int x1] ([.int y0]) h Q ↔ WPM 101 [.int y0] h (fun r h' => WP 95 31 [.ref x0, .int x1] (r.toList ++ []) h' Q)) ∧
  (∀ (x0 : Nat) (x1 : Int32) (y0 : Int32) (st : List Value) (h : AH) (Q : Option Value → AH → Prop), WP 95 31 [.ref x0, .int x1] (.int y0 :: st) h Q ↔ ((y0 = 0 → WP 95 47 [.ref x0, .int x1] (st) h Q) ∧ (¬ y0 = 0 → WP 95 34 [.ref x0, .int x1] (st) h Q))) ∧
  (∀ (x0 : Nat) (x1 : Int32) (st : List Value) (h : AH) (Q : Option Value → AH → Prop), WP 95 34 [.ref x0, .int x1] (st) h Q ↔ WP 95 35 [.ref x0, .int x1] (.ref x0 :: st) h Q) ∧
  (∀ (x0 : Nat) (x1 : Int32) (y0 : Nat) (st : List Value) (h : AH) (Q : Option Value → AH → Prop), WP 95 35 [.ref x0, .int x1] (.ref y0 :: st) h Q ↔ WP 95 36 [.ref x0, .int x1] (.ref y0 :: .ref y0 :: st) h Q) ∧
  (∀ (x0 : Nat) (x1 : Int32) (y0 : Nat) (st : List Value) (h : AH) (Q : Option Value → AH → Prop) (ht : hT h y0 = 11), WP 95 36 [.ref x0, .int x1] (.ref y0 :: st) h Q ↔ WP 95 39 [.ref x0, .int x1] (.int (hI h y0 3) :: st) h Q) ∧
  (∀ (x0 : Nat) (x1 : Int32) (st : List Value) (h : AH) (Q : Option Value → AH → Prop), WP 95 39 [.ref x0, .int x1] (st) h Q ↔ WP 95 40 [.ref x0, .int x1] (.int (1) :: st) h Q) ∧
  (∀ (x0 : Nat) (x1 : Int32) (y0 : Int32) (y1 : Int32) (st : List Value) (h : AH) (Q : Option Value → AH → Prop), WP 95 40 [.ref x0, .int x1] (.int y0 :: .int y1 :: st) h Q ↔ WP 95 41 [.ref x0, .int x1] (.int (y1 + y0) :: st) h Q) ∧
  (∀ (x0 : Nat) (x1 : Int32) (y0 : Int32) (y1 : Nat) (st : List Value) (h : AH) (Q : Option Value → AH → Prop) (ht : hT h y1 = 11), WP 95 41 [.ref x0, .int x1] (.int y0 :: .ref y1 :: st) h Q ↔ WP 95 44 [.ref x0, .int x1] (st) (sI h y1 3 y0) Q) ∧
  (∀ (x0 : Nat) (x1 : Int32) (st : List Value) (h : AH) (Q : Option Value → AH → Prop), WP 95 44 [.ref x0, .int x1] (st) h Q ↔ WP 95 11 [.ref x0, .int x1] (st) h Q) ∧
  (∀ (x0 : Nat) (x1 : Int32) (st : List Value) (h : AH) (Q : Option Value → AH → Prop), WP 95 47 [.ref x0, .int x1] (st) h Q ↔ WP 95 48 [.ref x0, .int x1] (.ref x0 :: st) h Q) ∧
  (∀ (x0 : Nat) (x1 : Int32) (y0 : Nat) (st : List Value) (h : AH) (Q : Option Value → AH → Prop) (ht : hT h y0 = 11), WP 95 48 [.ref x0, .int x1] (.ref y0 :: st) h Q ↔ WP 95 51 [.ref x0, .int x1] (.int (hI h y0 3) :: st) h Q) ∧
  (∀ (x0 : Nat) (x1 : Int32) (st : List Value) (h : AH) (Q : Option Value → AH → Prop), WP 95 51 [.ref x0, .int x1] (st) h Q ↔ WP 95 52 [.ref x0, .int x1] (.int x1 :: st) h Q) ∧
  (∀ (x0 : Nat) (x1 : Int32) (y0 : Int32) (y1 : Int32) (st : List Value) (h : AH) (Q : Option Value → AH → Prop), WP 95 52 [.ref x0, .int x1] (.int y0 :: .int y1 :: st) h Q ↔ ((y1 < y0 → WP 95 67 [.ref x0, .int x1] (st) h Q) ∧ (¬ y1 < y0 → WP 95 55 [.ref x0, .int x1] (st) h Q))) ∧
  (∀ (x0 : Nat) (x1 : Int32) (st : List Value) (h : AH) (Q : Option Value → AH → Prop), WP 95 55 [.ref x0, .int x1] (st) h Q ↔ WP 95 56 [.ref x0, .int x1] (.ref x0 :: st) h Q) ∧
  (∀ (x0 : Nat) (x1 : Int32) (st : List Value) (h : AH) (Q : Option Value → AH → Prop), WP 95 56 [.ref x0, .int x1] (st) h Q ↔ WP 95 58 [.ref x0, .int x1] (.int (10) :: st) h Q) ∧
  (∀ (x0 : Nat) (x1 : Int32) (y0 : Int32) (y1 : Nat) (st : List Value) (h : AH) (Q : Option Value → AH → Prop) (ht : hT h y1 = 11), WP 95 58 [.ref x0, .int x1] (.int y0 :: .ref y1 :: st) h Q ↔ WP 95 61 [.ref x0, .int x1] (st) (sI h y1 4 y0) Q) ∧
  (∀ (x0 : Nat) (x1 : Int32) (st : List Value) (h : AH) (Q : Option Value → AH → Prop), WP 95 61 [.ref x0, .int x1] (st) h Q ↔ WP 95 62 [.ref x0, .int x1] (.ref x0 :: st) h Q) ∧
  (∀ (x0 : Nat) (x1 : Int32) (st : List Value) (h : AH) (Q : Option Value → AH → Prop), WP 95 62 [.ref x0, .int x1] (st) h Q ↔ WP 95 63 [.ref x0, .int x1] (.int x1 :: st) h Q) ∧
  (∀ (x0 : Nat) (x1 : Int32) (y0 : Int32) (y1 : Nat) (st : List Value) (h : AH) (Q : Option Value → AH → Prop) (ht : hT h y1 = 11), WP 95 63 [.ref x0, .int x1] (.int y0 :: .ref y1 :: st) h Q ↔ WP 95 66 [.ref x0, .int x1] (st) (sI h y1 5 y0) Q) ∧
  (∀ (x0 : Nat) (x1 : Int32) (h : AH) (Q : Option Value → AH → Prop), WP 95 66 [.ref x0, .int x1] ([]) h Q ↔ Q none h) ∧
  (∀ (x0 : Nat) (x1 : Int32) (st : List Value) (h : AH) (Q : Option Value → AH → Prop), WP 95 67 [.ref x0, .int x1] (st) h Q ↔ WP 95 68 [.ref x0, .int x1] (.ref x0 :: st) h Q) ∧
  (∀ (x0 : Nat) (x1 : Int32) (st : List Value) (h : AH) (Q : Option Value → AH → Prop), WP 95 68 [.ref x0, .int x1] (st) h Q ↔ WP 95 69 [.ref x0, .int x1] (.ref x0 :: st) h Q) ∧
  (∀ (x0 : Nat) (x1 : Int32) (y0 : Nat) (st : List Value) (h : AH) (Q : Option Value → AH → Prop) (ht : hT h y0 = 11), WP 95 69 [.ref x0, .int x1] (.ref y0 :: st) h Q ↔ WP 95 72 [.ref x0, .int x1] (.int (hI h y0 3) :: st) h Q) ∧
  (∀ (x0 : Nat) (x1 : Int32) (y0 : Int32) (y1 : Nat) (st : List Value) (h : AH) (Q : Option Value → AH → Prop) (ht : hT h y1 = 11), WP 95 72 [.ref x0, .int x1] (.int y0 :: .ref y1 :: st) h Q ↔ WP 95 75 [.ref x0, .int x1] (st) (sI h y1 5 y0) Q) ∧
  (∀ (x0 : Nat) (x1 : Int32) (st : List Value) (h : AH) (Q : Option Value → AH → Prop), WP 95 75 [.ref x0, .int x1] (st) h Q ↔ WP 95 76 [.ref x0, .int x1] (.ref x0 :: st) h Q) ∧
  (∀ (x0 : Nat) (x1 : Int32) (y0 : Nat) (st : List Value) (h : AH) (Q : Option Value → AH → Prop) (ht : hT h y0 = 11), WP 95 76 [.ref x0, .int x1] (.ref y0 :: st) h Q ↔ WP 95 79 [.ref x0, .int x1] (.ref (hR h y0 1) :: st) h Q) ∧
  (∀ (x0 : Nat) (x1 : Int32) (st : List Value) (h : AH) (Q : Option Value → AH → Prop), WP 95 79 [.ref x0, .int x1] (st) h Q ↔ WP 95 80 [.ref x0, .int x1] (.ref x0 :: st) h Q) :=
  ⟨fun _ _ _ _ => WP_s (show ct 95 0 = some (.aload_n 0, 0, []) by decide +kernel) rfl,
  fun _ _ _ _ _ ht => WH_gI (show ct 95 1 = some (.getfield 47, 1, [10, 2, 0, 282]) by decide +kernel) (by decide) ht,
  fun _ _ _ _ => WP_s (show ct 95 4 = some (.sipush 500, 0, []) by decide +kernel) rfl,
  fun _ _ _ _ _ => WH_min (show ct 95 7 = some (.invokestatic 41, 1, [1, 640, 641, 112, 642]) by decide +kernel) (Nat.le_of_ble_eq_true rfl),
  fun _ _ _ _ _ => WP_s (show ct 95 10 = some (.istore_n 1, 0, []) by decide +kernel) rfl,
  fun _ _ _ _ _ _ ht => WH_gI (show ct 95 12 = some (.getfield 50, 1, [10, 3, 0, 283]) by decide +kernel) (by decide) ht,
  fun _ _ _ _ _ => WP_s (show ct 95 15 = some (.iload_n 1, 0, []) by decide +kernel) rfl,
  fun _ _ _ _ _ _ _ => WI_ge (show ct 95 16 = some (.if_icmp .ge 31, 0, [47]) by decide +kernel) (by decide),
  fun _ _ _ _ _ => WP_s (show ct 95 19 = some (.aload_n 0, 0, []) by decide +kernel) rfl,
  fun _ _ _ _ _ _ ht => WH_gR (show ct 95 20 = some (.getfield 33, 1, [10, 1, 2, 281]) by decide +kernel) ht,
  fun _ _ _ _ _ => WP_s (show ct 95 23 = some (.aload_n 0, 0, []) by decide +kernel) rfl,
  fun _ _ _ _ _ _ ht => WH_gI (show ct 95 24 = some (.getfield 50, 1, [10, 3, 0, 283]) by decide +kernel) (by decide) ht,
  fun _ _ _ _ _ _ _ ht hi => WH_bald (show ct 95 27 = some (.baload, 1, []) by decide +kernel) ht hi,
  fun _ _ _ _ _ => WC_0 (show ct 95 28 = some (.invokestatic 53, 3, [101, 1, 0, 0, 0, 651, 652, 0]) by decide +kernel) (Nat.le_of_ble_eq_true rfl) (Nat.le_of_ble_eq_true rfl) rfl rfl,
  fun _ _ _ _ _ _ => WZ_eq (show ct 95 31 = some (.ifCond .eq 16, 0, [47]) by decide +kernel) (by decide),
  fun _ _ _ _ _ => WP_s (show ct 95 34 = some (.aload_n 0, 0, []) by decide +kernel) rfl,
  fun _ _ _ _ _ _ => WP_s (show ct 95 35 = some (.dup, 0, []) by decide +kernel) rfl,
  fun _ _ _ _ _ _ ht => WH_gI (show ct 95 36 = some (.getfield 50, 1, [10, 3, 0, 283]) by decide +kernel) (by decide) ht,
  fun _ _ _ _ _ => WP_s (show ct 95 39 = some (.iconst 1, 0, []) by decide +kernel) rfl,
  fun _ _ _ _ _ _ _ => WP_s (show ct 95 40 = some (.iadd, 0, []) by decide +kernel) rfl,
  fun _ _ _ _ _ _ _ ht => WH_pI (show ct 95 41 = some (.putfield 50, 1, [10, 3, 0, 0, 283]) by decide +kernel) ht,
  fun _ _ _ _ _ => WP_s (show ct 95 44 = some (.goto (-33), 0, [11]) by decide +kernel) rfl,
  fun _ _ _ _ _ => WP_s (show ct 95 47 = some (.aload_n 0, 0, []) by decide +kernel) rfl,
  fun _ _ _ _ _ _ ht => WH_gI (show ct 95 48 = some (.getfield 50, 1, [10, 3, 0, 283]) by decide +kernel) (by decide) ht,
  fun _ _ _ _ _ => WP_s (show ct 95 51 = some (.iload_n 1, 0, []) by decide +kernel) rfl,
  fun _ _ _ _ _ _ _ => WI_lt (show ct 95 52 = some (.if_icmp .lt 15, 0, [67]) by decide +kernel) (by decide),
  fun _ _ _ _ _ => WP_s (show ct 95 55 = some (.aload_n 0, 0, []) by decide +kernel) rfl,
  fun _ _ _ _ _ => WP_s (show ct 95 56 = some (.bipush 10, 0, []) by decide +kernel) rfl,
  fun _ _ _ _ _ _ _ ht => WH_pI (show ct 95 58 = some (.putfield 37, 1, [10, 4, 0, 0, 284]) by decide +kernel) ht,
  fun _ _ _ _ _ => WP_s (show ct 95 61 = some (.aload_n 0, 0, []) by decide +kernel) rfl,
  fun _ _ _ _ _ => WP_s (show ct 95 62 = some (.iload_n 1, 0, []) by decide +kernel) rfl,
  fun _ _ _ _ _ _ _ ht => WH_pI (show ct 95 63 = some (.putfield 57, 1, [10, 5, 0, 0, 287]) by decide +kernel) ht,
  fun _ _ _ _ => WR_v (show ct 95 66 = some (.return_, 2, [0]) by decide +kernel),
  fun _ _ _ _ _ => WP_s (show ct 95 67 = some (.aload_n 0, 0, []) by decide +kernel) rfl,
  fun _ _ _ _ _ => WP_s (show ct 95 68 = some (.aload_n 0, 0, []) by decide +kernel) rfl,
  fun _ _ _ _ _ _ ht => WH_gI (show ct 95 69 = some (.getfield 50, 1, [10, 3, 0, 283]) by decide +kernel) (by decide) ht,
  fun _ _ _ _ _ _ _ ht => WH_pI (show ct 95 72 = some (.putfield 57, 1, [10, 5, 0, 0, 287]) by decide +kernel) ht,
  fun _ _ _ _ _ => WP_s (show ct 95 75 = some (.aload_n 0, 0, []) by decide +kernel) rfl,
  fun _ _ _ _ _ _ ht => WH_gR (show ct 95 76 = some (.getfield 33, 1, [10, 1, 2, 281]) by decide +kernel) ht,
  fun _ _ _ _ _ => WP_s (show ct 95 79 = some (.aload_n 0, 0, []) by decide +kernel) rfl⟩
set_option maxRecDepth 10000 in
theorem w95_b : (∀ (x0 : Nat) (x1 : Int32) (y0 : Nat) (st : List Value) (h : AH) (Q : Option Value → AH → Prop) (ht : hT h y0 = 11), WP 95 80 [.ref x0, .int x1] (.ref y0 :: st) h Q ↔ WP 95 83 [.ref x0, .int x1] (.int (hI h y0 3) :: st) h Q) ∧
  (∀ (x0 : Nat) (x1 : Int32) (y0 : Int32) (y1 : Nat) (st : List Value) (h : AH) (Q : Option Value → AH → Prop) (ht : hT h y1 = 101 ∨ hT h y1 = 102) (hi : inb y0 (hL h y1) = true), WP 95 83 [.ref x0, .int x1] (.int y0 :: .ref y1 :: st) h Q ↔ WP 95 84 [.ref x0, .int x1] (.int (hI h y1 y0.toNatClampNeg) :: st) h Q) ∧
  (∀ (x0 : Nat) (x1 : Int32) (st : List Value) (h : AH) (Q : Option Value → AH → Prop), WP 95 84 [.ref x0, .int x1] (st) h Q ↔ WP 95 86 [.ref x0, .int x1] (.int (59) :: st) h Q) ∧
  (∀ (x0 : Nat) (x1 : Int32) (y0 : Int32) (y1 : Int32) (st : List Value) (h : AH) (Q : Option Value → AH → Prop), WP 95 86 [.ref x0, .int x1] (.int y0 :: .int y1 :: st) h Q ↔ ((¬ y1 = y0 → WP 95 108 [.ref x0, .int x1] (st) h Q) ∧ (y1 = y0 → WP 95 89 [.ref x0, .int x1] (st) h Q))) ∧
  (∀ (x0 : Nat) (x1 : Int32) (st : List Value) (h : AH) (Q : Option Value → AH → Prop), WP 95 89 [.ref x0, .int x1] (st) h Q ↔ WP 95 90 [.ref x0, .int x1] (.ref x0 :: st) h Q) ∧
  (∀ (x0 : Nat) (x1 : Int32) (st : List Value) (h : AH) (Q : Option Value → AH → Prop), WP 95 90 [.ref x0, .int x1] (st) h Q ↔ WP 95 92 [.ref x0, .int x1] (.int (9) :: st) h Q) ∧
  (∀ (x0 : Nat) (x1 : Int32) (y0 : Int32) (y1 : Nat) (st : List Value) (h : AH) (Q : Option Value → AH → Prop) (ht : hT h y1 = 11), WP 95 92 [.ref x0, .int x1] (.int y0 :: .ref y1 :: st) h Q ↔ WP 95 95 [.ref x0, .int x1] (st) (sI h y1 4 y0) Q) ∧
  (∀ (x0 : Nat) (x1 : Int32) (st : List Value) (h : AH) (Q : Option Value → AH → Prop), WP 95 95 [.ref x0, .int x1] (st) h Q ↔ WP 95 96 [.ref x0, .int x1] (.ref x0 :: st) h Q) ∧
  (∀ (x0 : Nat) (x1 : Int32) (y0 : Nat) (st : List Value) (h : AH) (Q : Option Value → AH → Prop), WP 95 96 [.ref x0, .int x1] (.ref y0 :: st) h Q ↔ WP 95 97 [.ref x0, .int x1] (.ref y0 :: .ref y0 :: st) h Q) ∧
  (∀ (x0 : Nat) (x1 : Int32) (y0 : Nat) (st : List Value) (h : AH) (Q : Option Value → AH → Prop) (ht : hT h y0 = 11), WP 95 97 [.ref x0, .int x1] (.ref y0 :: st) h Q ↔ WP 95 100 [.ref x0, .int x1] (.int (hI h y0 3) :: st) h Q) ∧
  (∀ (x0 : Nat) (x1 : Int32) (st : List Value) (h : AH) (Q : Option Value → AH → Prop), WP 95 100 [.ref x0, .int x1] (st) h Q ↔ WP 95 101 [.ref x0, .int x1] (.int (1) :: st) h Q) ∧
  (∀ (x0 : Nat) (x1 : Int32) (y0 : Int32) (y1 : Int32) (st : List Value) (h : AH) (Q : Option Value → AH → Prop), WP 95 101 [.ref x0, .int x1] (.int y0 :: .int y1 :: st) h Q ↔ WP 95 102 [.ref x0, .int x1] (.int (y1 + y0) :: st) h Q) ∧
  (∀ (x0 : Nat) (x1 : Int32) (y0 : Int32) (y1 : Nat) (st : List Value) (h : AH) (Q : Option Value → AH → Prop) (ht : hT h y1 = 11), WP 95 102 [.ref x0, .int x1] (.int y0 :: .ref y1 :: st) h Q ↔ WP 95 105 [.ref x0, .int x1] (st) (sI h y1 3 y0) Q) ∧
  (∀ (x0 : Nat) (x1 : Int32) (st : List Value) (h : AH) (Q : Option Value → AH → Prop), WP 95 105 [.ref x0, .int x1] (st) h Q ↔ WP 95 151 [.ref x0, .int x1] (st) h Q) ∧
  (∀ (x0 : Nat) (x1 : Int32) (st : List Value) (h : AH) (Q : Option Value → AH → Prop), WP 95 108 [.ref x0, .int x1] (st) h Q ↔ WP 95 109 [.ref x0, .int x1] (.ref x0 :: st) h Q) ∧
  (∀ (x0 : Nat) (x1 : Int32) (y0 : Nat) (st : List Value) (h : AH) (Q : Option Value → AH → Prop) (ht : hT h y0 = 11), WP 95 109 [.ref x0, .int x1] (.ref y0 :: st) h Q ↔ WP 95 112 [.ref x0, .int x1] (.ref (hR h y0 1) :: st) h Q) ∧
  (∀ (x0 : Nat) (x1 : Int32) (st : List Value) (h : AH) (Q : Option Value → AH → Prop), WP 95 112 [.ref x0, .int x1] (st) h Q ↔ WP 95 113 [.ref x0, .int x1] (.ref x0 :: st) h Q) ∧
  (∀ (x0 : Nat) (x1 : Int32) (y0 : Nat) (st : List Value) (h : AH) (Q : Option Value → AH → Prop) (ht : hT h y0 = 11), WP 95 113 [.ref x0, .int x1] (.ref y0 :: st) h Q ↔ WP 95 116 [.ref x0, .int x1] (.int (hI h y0 3) :: st) h Q) ∧
  (∀ (x0 : Nat) (x1 : Int32) (y0 : Int32) (y1 : Nat) (st : List Value) (h : AH) (Q : Option Value → AH → Prop) (ht : hT h y1 = 101 ∨ hT h y1 = 102) (hi : inb y0 (hL h y1) = true), WP 95 116 [.ref x0, .int x1] (.int y0 :: .ref y1 :: st) h Q ↔ WP 95 117 [.ref x0, .int x1] (.int (hI h y1 y0.toNatClampNeg) :: st) h Q) ∧
  (∀ (x0 : Nat) (x1 : Int32) (y0 : Int32) (h : AH) (Q : Option Value → AH → Prop), WP 95 117 [.ref x0, .int x1] ([.int y0]) h Q ↔ WPM 102 [.int y0] h (fun r h' => WP 95 120 [.ref x0, .int x1] (r.toList ++ []) h' Q)) ∧
  (∀ (x0 : Nat) (x1 : Int32) (y0 : Int32) (st : List Value) (h : AH) (Q : Option Value → AH → Prop), WP 95 120 [.ref x0, .int x1] (.int y0 :: st) h Q ↔ ((¬ y0 = 0 → WP 95 138 [.ref x0, .int x1] (st) h Q) ∧ (y0 = 0 → WP 95 123 [.ref x0, .int x1] (st) h Q))) ∧
  (∀ (x0 : Nat) (x1 : Int32) (st : List Value) (h : AH) (Q : Option Value → AH → Prop), WP 95 123 [.ref x0, .int x1] (st) h Q ↔ WP 95 124 [.ref x0, .int x1] (.ref x0 :: st) h Q) ∧
  (∀ (x0 : Nat) (x1 : Int32) (y0 : Nat) (st : List Value) (h : AH) (Q : Option Value → AH → Prop) (ht : hT h y0 = 11), WP 95 124 [.ref x0, .int x1] (.ref y0 :: st) h Q ↔ WP 95 127 [.ref x0, .int x1] (.ref (hR h y0 1) :: st) h Q) ∧
  (∀ (x0 : Nat) (x1 : Int32) (st : List Value) (h : AH) (Q : Option Value → AH → Prop), WP 95 127 [.ref x0, .int x1] (st) h Q ↔ WP 95 128 [.ref x0, .int x1] (.ref x0 :: st) h Q) ∧
  (∀ (x0 : Nat) (x1 : Int32) (y0 : Nat) (st : List Value) (h : AH) (Q : Option Value → AH → Prop) (ht : hT h y0 = 11), WP 95 128 [.ref x0, .int x1] (.ref y0 :: st) h Q ↔ WP 95 131 [.ref x0, .int x1] (.int (hI h y0 3) :: st) h Q) ∧
  (∀ (x0 : Nat) (x1 : Int32) (y0 : Int32) (y1 : Nat) (st : List Value) (h : AH) (Q : Option Value → AH → Prop) (ht : hT h y1 = 101 ∨ hT h y1 = 102) (hi : inb y0 (hL h y1) = true), WP 95 131 [.ref x0, .int x1] (.int y0 :: .ref y1 :: st) h Q ↔ WP 95 132 [.ref x0, .int x1] (.int (hI h y1 y0.toNatClampNeg) :: st) h Q) ∧
  (∀ (x0 : Nat) (x1 : Int32) (y0 : Int32) (h : AH) (Q : Option Value → AH → Prop), WP 95 132 [.ref x0, .int x1] ([.int y0]) h Q ↔ WPM 103 [.int y0] h (fun r h' => WP 95 135 [.ref x0, .int x1] (r.toList ++ []) h' Q)) ∧
  (∀ (x0 : Nat) (x1 : Int32) (y0 : Int32) (st : List Value) (h : AH) (Q : Option Value → AH → Prop), WP 95 135 [.ref x0, .int x1] (.int y0 :: st) h Q ↔ ((y0 = 0 → WP 95 145 [.ref x0, .int x1] (st) h Q) ∧ (¬ y0 = 0 → WP 95 138 [.ref x0, .int x1] (st) h Q))) ∧
  (∀ (x0 : Nat) (x1 : Int32) (st : List Value) (h : AH) (Q : Option Value → AH → Prop), WP 95 138 [.ref x0, .int x1] (st) h Q ↔ WP 95 139 [.ref x0, .int x1] (.ref x0 :: st) h Q) ∧
  (∀ (x0 : Nat) (x1 : Int32) (y0 : Nat) (h : AH) (Q : Option Value → AH → Prop) (ht : hT h y0 = 11), WP 95 139 [.ref x0, .int x1] ([.ref y0]) h Q ↔ WPM 96 [.ref y0] h (fun r h' => WP 95 142 [.ref x0, .int x1] (r.toList ++ []) h' Q)) ∧
  (∀ (x0 : Nat) (x1 : Int32) (st : List Value) (h : AH) (Q : Option Value → AH → Prop), WP 95 142 [.ref x0, .int x1] (st) h Q ↔ WP 95 151 [.ref x0, .int x1] (st) h Q) ∧
  (∀ (x0 : Nat) (x1 : Int32) (st : List Value) (h : AH) (Q : Option Value → AH → Prop), WP 95 145 [.ref x0, .int x1] (st) h Q ↔ WP 95 146 [.ref x0, .int x1] (.ref x0 :: st) h Q) ∧
  (∀ (x0 : Nat) (x1 : Int32) (st : List Value) (h : AH) (Q : Option Value → AH → Prop), WP 95 146 [.ref x0, .int x1] (st) h Q ↔ WP 95 148 [.ref x0, .int x1] (.int (11) :: st) h Q) ∧
  (∀ (x0 : Nat) (x1 : Int32) (y0 : Int32) (y1 : Nat) (st : List Value) (h : AH) (Q : Option Value → AH → Prop) (ht : hT h y1 = 11), WP 95 148 [.ref x0, .int x1] (.int y0 :: .ref y1 :: st) h Q ↔ WP 95 151 [.ref x0, .int x1] (st) (sI h y1 4 y0) Q) ∧
  (∀ (x0 : Nat) (x1 : Int32) (h : AH) (Q : Option Value → AH → Prop), WP 95 151 [.ref x0, .int x1] ([]) h Q ↔ Q none h) :=
  ⟨fun _ _ _ _ _ _ ht => WH_gI (show ct 95 80 = some (.getfield 50, 1, [10, 3, 0, 283]) by decide +kernel) (by decide) ht,
  fun _ _ _ _ _ _ _ ht hi => WH_bald (show ct 95 83 = some (.baload, 1, []) by decide +kernel) ht hi,
  fun _ _ _ _ _ => WP_s (show ct 95 84 = some (.bipush 59, 0, []) by decide +kernel) rfl,
  fun _ _ _ _ _ _ _ => WI_ne (show ct 95 86 = some (.if_icmp .ne 22, 0, [108]) by decide +kernel) (by decide),
  fun _ _ _ _ _ => WP_s (show ct 95 89 = some (.aload_n 0, 0, []) by decide +kernel) rfl,
  fun _ _ _ _ _ => WP_s (show ct 95 90 = some (.bipush 9, 0, []) by decide +kernel) rfl,
  fun _ _ _ _ _ _ _ ht => WH_pI (show ct 95 92 = some (.putfield 37, 1, [10, 4, 0, 0, 284]) by decide +kernel) ht,
  fun _ _ _ _ _ => WP_s (show ct 95 95 = some (.aload_n 0, 0, []) by decide +kernel) rfl,
  fun _ _ _ _ _ _ => WP_s (show ct 95 96 = some (.dup, 0, []) by decide +kernel) rfl,
  fun _ _ _ _ _ _ ht => WH_gI (show ct 95 97 = some (.getfield 50, 1, [10, 3, 0, 283]) by decide +kernel) (by decide) ht,
  fun _ _ _ _ _ => WP_s (show ct 95 100 = some (.iconst 1, 0, []) by decide +kernel) rfl,
  fun _ _ _ _ _ _ _ => WP_s (show ct 95 101 = some (.iadd, 0, []) by decide +kernel) rfl,
  fun _ _ _ _ _ _ _ ht => WH_pI (show ct 95 102 = some (.putfield 50, 1, [10, 3, 0, 0, 283]) by decide +kernel) ht,
  fun _ _ _ _ _ => WP_s (show ct 95 105 = some (.goto 46, 0, [151]) by decide +kernel) rfl,
  fun _ _ _ _ _ => WP_s (show ct 95 108 = some (.aload_n 0, 0, []) by decide +kernel) rfl,
  fun _ _ _ _ _ _ ht => WH_gR (show ct 95 109 = some (.getfield 33, 1, [10, 1, 2, 281]) by decide +kernel) ht,
  fun _ _ _ _ _ => WP_s (show ct 95 112 = some (.aload_n 0, 0, []) by decide +kernel) rfl,
  fun _ _ _ _ _ _ ht => WH_gI (show ct 95 113 = some (.getfield 50, 1, [10, 3, 0, 283]) by decide +kernel) (by decide) ht,
  fun _ _ _ _ _ _ _ ht hi => WH_bald (show ct 95 116 = some (.baload, 1, []) by decide +kernel) ht hi,
  fun _ _ _ _ _ => WC_0 (show ct 95 117 = some (.invokestatic 60, 3, [102, 1, 0, 0, 0, 654, 655, 0]) by decide +kernel) (Nat.le_of_ble_eq_true rfl) (Nat.le_of_ble_eq_true rfl) rfl rfl,
  fun _ _ _ _ _ _ => WZ_ne (show ct 95 120 = some (.ifCond .ne 18, 0, [138]) by decide +kernel) (by decide),
  fun _ _ _ _ _ => WP_s (show ct 95 123 = some (.aload_n 0, 0, []) by decide +kernel) rfl,
  fun _ _ _ _ _ _ ht => WH_gR (show ct 95 124 = some (.getfield 33, 1, [10, 1, 2, 281]) by decide +kernel) ht,
  fun _ _ _ _ _ => WP_s (show ct 95 127 = some (.aload_n 0, 0, []) by decide +kernel) rfl,
  fun _ _ _ _ _ _ ht => WH_gI (show ct 95 128 = some (.getfield 50, 1, [10, 3, 0, 283]) by decide +kernel) (by decide) ht,
  fun _ _ _ _ _ _ _ ht hi => WH_bald (show ct 95 131 = some (.baload, 1, []) by decide +kernel) ht hi,
  fun _ _ _ _ _ => WC_0 (show ct 95 132 = some (.invokestatic 63, 3, [103, 1, 0, 0, 0, 657, 658, 0]) by decide +kernel) (Nat.le_of_ble_eq_true rfl) (Nat.le_of_ble_eq_true rfl) rfl rfl,
  fun _ _ _ _ _ _ => WZ_eq (show ct 95 135 = some (.ifCond .eq 10, 0, [145]) by decide +kernel) (by decide),
  fun _ _ _ _ _ => WP_s (show ct 95 138 = some (.aload_n 0, 0, []) by decide +kernel) rfl,
  fun _ _ _ _ _ ht => WC_1 (show ct 95 139 = some (.invokevirtual 66, 3, [96, 1, 1, 11, 0, 660, 662, 3]) by decide +kernel) (Nat.le_of_ble_eq_true rfl) (Nat.le_of_ble_eq_true rfl) rfl rfl ht,
  fun _ _ _ _ _ => WP_s (show ct 95 142 = some (.goto 9, 0, [151]) by decide +kernel) rfl,
  fun _ _ _ _ _ => WP_s (show ct 95 145 = some (.aload_n 0, 0, []) by decide +kernel) rfl,
  fun _ _ _ _ _ => WP_s (show ct 95 146 = some (.bipush 11, 0, []) by decide +kernel) rfl,
  fun _ _ _ _ _ _ _ ht => WH_pI (show ct 95 148 = some (.putfield 37, 1, [10, 4, 0, 0, 284]) by decide +kernel) ht,
  fun _ _ _ _ => WR_v (show ct 95 151 = some (.return_, 2, [0]) by decide +kernel)⟩
/-- all of 95 -/
def w95_n : Nat := 2
/-! 96: FewBowls$Tokens.readRun()V; loop heads [4] -/
theorem w96_4 : ∀ (x0 : Nat) (x1 : Int32) (x2 : Int32) (st : List Value) (h : AH) (Q : Option Value → AH → Prop), WP 96 4 [.ref x0, .int x1, .int x2] (st) h Q ↔ WP 96 5 [.ref x0, .int x1, .int x2] (.ref x0 :: st) h Q := fun _ _ _ _ _ _ => WP_s (show ct 96 4 = some (.aload_n 0, 0, []) by decide +kernel) rfl
set_option maxRecDepth 10000 in
theorem w96_a : (∀ (x0 : Nat) (st : List Value) (h : AH) (Q : Option Value → AH → Prop), WP 96 0 [.ref x0, .retAddr 0, .retAddr 0] (st) h Q ↔ WP 96 1 [.ref x0, .retAddr 0, .retAddr 0] (.int (0) :: st) h Q) ∧
  (∀ (x0 : Nat) (y0 : Int32) (st : List Value) (h : AH) (Q : Option Value → AH → Prop), WP 96 1 [.ref x0, .retAddr 0, .retAddr 0] (.int y0 :: st) h Q ↔ WP 96 2 [.ref x0, .int y0, .retAddr 0] (st) h Q) ∧
  (∀ (x0 : Nat) (x1 : Int32) (st : List Value) (h : AH) (Q : Option Value → AH → Prop), WP 96 2 [.ref x0, .int x1, .retAddr 0] (st) h Q ↔ WP 96 3 [.ref x0, .int x1, .retAddr 0] (.int (0) :: st) h Q) ∧
  (∀ (x0 : Nat) (x1 : Int32) (y0 : Int32) (st : List Value) (h : AH) (Q : Option Value → AH → Prop), WP 96 3 [.ref x0, .int x1, .retAddr 0] (.int y0 :: st) h Q ↔ WP 96 4 [.ref x0, .int x1, .int y0] (st) h Q) ∧
  (∀ (x0 : Nat) (x1 : Int32) (x2 : Int32) (y0 : Nat) (st : List Value) (h : AH) (Q : Option Value → AH → Prop) (ht : hT h y0 = 11), WP 96 5 [.ref x0, .int x1, .int x2] (.ref y0 :: st) h Q ↔ WP 96 8 [.ref x0, .int x1, .int x2] (.int (hI h y0 3) :: st) h Q) ∧
  (∀ (x0 : Nat) (x1 : Int32) (x2 : Int32) (st : List Value) (h : AH) (Q : Option Value → AH → Prop), WP 96 8 [.ref x0, .int x1, .int x2] (st) h Q ↔ WP 96 9 [.ref x0, .int x1, .int x2] (.ref x0 :: st) h Q) ∧
  (∀ (x0 : Nat) (x1 : Int32) (x2 : Int32) (y0 : Nat) (st : List Value) (h : AH) (Q : Option Value → AH → Prop) (ht : hT h y0 = 11), WP 96 9 [.ref x0, .int x1, .int x2] (.ref y0 :: st) h Q ↔ WP 96 12 [.ref x0, .int x1, .int x2] (.int (hI h y0 2) :: st) h Q) ∧
  (∀ (x0 : Nat) (x1 : Int32) (x2 : Int32) (y0 : Int32) (y1 : Int32) (st : List Value) (h : AH) (Q : Option Value → AH → Prop), WP 96 12 [.ref x0, .int x1, .int x2] (.int y0 :: .int y1 :: st) h Q ↔ ((y0 ≤ y1 → WP 96 82 [.ref x0, .int x1, .int x2] (st) h Q) ∧ (¬ y0 ≤ y1 → WP 96 15 [.ref x0, .int x1, .int x2] (st) h Q))) ∧
  (∀ (x0 : Nat) (x1 : Int32) (x2 : Int32) (st : List Value) (h : AH) (Q : Option Value → AH → Prop), WP 96 15 [.ref x0, .int x1, .int x2] (st) h Q ↔ WP 96 16 [.ref x0, .int x1, .int x2] (.ref x0 :: st) h Q) ∧
  (∀ (x0 : Nat) (x1 : Int32) (x2 : Int32) (y0 : Nat) (st : List Value) (h : AH) (Q : Option Value → AH → Prop) (ht : hT h y0 = 11), WP 96 16 [.ref x0, .int x1, .int x2] (.ref y0 :: st) h Q ↔ WP 96 19 [.ref x0, .int x1, .int x2] (.ref (hR h y0 1) :: st) h Q) ∧
  (∀ (x0 : Nat) (x1 : Int32) (x2 : Int32) (st : List Value) (h : AH) (Q : Option Value → AH → Prop), WP 96 19 [.ref x0, .int x1, .int x2] (st) h Q ↔ WP 96 20 [.ref x0, .int x1, .int x2] (.ref x0 :: st) h Q) ∧
  (∀ (x0 : Nat) (x1 : Int32) (x2 : Int32) (y0 : Nat) (st : List Value) (h : AH) (Q : Option Value → AH → Prop) (ht : hT h y0 = 11), WP 96 20 [.ref x0, .int x1, .int x2] (.ref y0 :: st) h Q ↔ WP 96 23 [.ref x0, .int x1, .int x2] (.int (hI h y0 3) :: st) h Q) ∧
  (∀ (x0 : Nat) (x1 : Int32) (x2 : Int32) (y0 : Int32) (y1 : Nat) (st : List Value) (h : AH) (Q : Option Value → AH → Prop) (ht : hT h y1 = 101 ∨ hT h y1 = 102) (hi : inb y0 (hL h y1) = true), WP 96 23 [.ref x0, .int x1, .int x2] (.int y0 :: .ref y1 :: st) h Q ↔ WP 96 24 [.ref x0, .int x1, .int x2] (.int (hI h y1 y0.toNatClampNeg) :: st) h Q) ∧
  (∀ (x0 : Nat) (x1 : Int32) (x2 : Int32) (y0 : Int32) (h : AH) (Q : Option Value → AH → Prop), WP 96 24 [.ref x0, .int x1, .int x2] ([.int y0]) h Q ↔ WPM 102 [.int y0] h (fun r h' => WP 96 27 [.ref x0, .int x1, .int x2] (r.toList ++ []) h' Q)) ∧
  (∀ (x0 : Nat) (x1 : Int32) (x2 : Int32) (y0 : Int32) (st : List Value) (h : AH) (Q : Option Value → AH → Prop), WP 96 27 [.ref x0, .int x1, .int x2] (.int y0 :: st) h Q ↔ ((¬ y0 = 0 → WP 96 45 [.ref x0, .int x1, .int x2] (st) h Q) ∧ (y0 = 0 → WP 96 30 [.ref x0, .int x1, .int x2] (st) h Q))) ∧
  (∀ (x0 : Nat) (x1 : Int32) (x2 : Int32) (st : List Value) (h : AH) (Q : Option Value → AH → Prop), WP 96 30 [.ref x0, .int x1, .int x2] (st) h Q ↔ WP 96 31 [.ref x0, .int x1, .int x2] (.ref x0 :: st) h Q) ∧
  (∀ (x0 : Nat) (x1 : Int32) (x2 : Int32) (y0 : Nat) (st : List Value) (h : AH) (Q : Option Value → AH → Prop) (ht : hT h y0 = 11), WP 96 31 [.ref x0, .int x1, .int x2] (.ref y0 :: st) h Q ↔ WP 96 34 [.ref x0, .int x1, .int x2] (.ref (hR h y0 1) :: st) h Q) ∧
  (∀ (x0 : Nat) (x1 : Int32) (x2 : Int32) (st : List Value) (h : AH) (Q : Option Value → AH → Prop), WP 96 34 [.ref x0, .int x1, .int x2] (st) h Q ↔ WP 96 35 [.ref x0, .int x1, .int x2] (.ref x0 :: st) h Q) ∧
  (∀ (x0 : Nat) (x1 : Int32) (x2 : Int32) (y0 : Nat) (st : List Value) (h : AH) (Q : Option Value → AH → Prop) (ht : hT h y0 = 11), WP 96 35 [.ref x0, .int x1, .int x2] (.ref y0 :: st) h Q ↔ WP 96 38 [.ref x0, .int x1, .int x2] (.int (hI h y0 3) :: st) h Q) ∧
  (∀ (x0 : Nat) (x1 : Int32) (x2 : Int32) (y0 : Int32) (y1 : Nat) (st : List Value) (h : AH) (Q : Option Value → AH → Prop) (ht : hT h y1 = 101 ∨ hT h y1 = 102) (hi : inb y0 (hL h y1) = true), WP 96 38 [.ref x0, .int x1, .int x2] (.int y0 :: .ref y1 :: st) h Q ↔ WP 96 39 [.ref x0, .int x1, .int x2] (.int (hI h y1 y0.toNatClampNeg) :: st) h Q) ∧
  (∀ (x0 : Nat) (x1 : Int32) (x2 : Int32) (y0 : Int32) (h : AH) (Q : Option Value → AH → Prop), WP 96 39 [.ref x0, .int x1, .int x2] ([.int y0]) h Q ↔ WPM 103 [.int y0] h (fun r h' => WP 96 42 [.ref x0, .int x1, .int x2] (r.toList ++ []) h' Q)) ∧
  (∀ (x0 : Nat) (x1 : Int32) (x2 : Int32) (y0 : Int32) (st : List Value) (h : AH) (Q : Option Value → AH → Prop), WP 96 42 [.ref x0, .int x1, .int x2] (.int y0 :: st) h Q ↔ ((y0 = 0 → WP 96 82 [.ref x0, .int x1, .int x2] (st) h Q) ∧ (¬ y0 = 0 → WP 96 45 [.ref x0, .int x1, .int x2] (st) h Q))) ∧
  (∀ (x0 : Nat) (x1 : Int32) (x2 : Int32) (st : List Value) (h : AH) (Q : Option Value → AH → Prop), WP 96 45 [.ref x0, .int x1, .int x2] (st) h Q ↔ WP 96 46 [.ref x0, .int x1, .int x2] (.ref x0 :: st) h Q) ∧
  (∀ (x0 : Nat) (x1 : Int32) (x2 : Int32) (y0 : Nat) (st : List Value) (h : AH) (Q : Option Value → AH → Prop) (ht : hT h y0 = 11), WP 96 46 [.ref x0, .int x1, .int x2] (.ref y0 :: st) h Q ↔ WP 96 49 [.ref x0, .int x1, .int x2] (.ref (hR h y0 1) :: st) h Q) ∧
  (∀ (x0 : Nat) (x1 : Int32) (x2 : Int32) (st : List Value) (h : AH) (Q : Option Value → AH → Prop), WP 96 49 [.ref x0, .int x1, .int x2] (st) h Q ↔ WP 96 50 [.ref x0, .int x1, .int x2] (.ref x0 :: st) h Q) ∧
  (∀ (x0 : Nat) (x1 : Int32) (x2 : Int32) (y0 : Nat) (st : List Value) (h : AH) (Q : Option Value → AH → Prop) (ht : hT h y0 = 11), WP 96 50 [.ref x0, .int x1, .int x2] (.ref y0 :: st) h Q ↔ WP 96 53 [.ref x0, .int x1, .int x2] (.int (hI h y0 3) :: st) h Q) ∧
  (∀ (x0 : Nat) (x1 : Int32) (x2 : Int32) (y0 : Int32) (y1 : Nat) (st : List Value) (h : AH) (Q : Option Value → AH → Prop) (ht : hT h y1 = 101 ∨ hT h y1 = 102) (hi : inb y0 (hL h y1) = true), WP 96 53 [.ref x0, .int x1, .int x2] (.int y0 :: .ref y1 :: st) h Q ↔ WP 96 54 [.ref x0, .int x1, .int x2] (.int (hI h y1 y0.toNatClampNeg) :: st) h Q) ∧
  (∀ (x0 : Nat) (x1 : Int32) (x2 : Int32) (y0 : Int32) (h : AH) (Q : Option Value → AH → Prop), WP 96 54 [.ref x0, .int x1, .int x2] ([.int y0]) h Q ↔ WPM 102 [.int y0] h (fun r h' => WP 96 57 [.ref x0, .int x1, .int x2] (r.toList ++ []) h' Q)) ∧
  (∀ (x0 : Nat) (x1 : Int32) (x2 : Int32) (y0 : Int32) (st : List Value) (h : AH) (Q : Option Value → AH → Prop), WP 96 57 [.ref x0, .int x1, .int x2] (.int y0 :: st) h Q ↔ ((y0 = 0 → WP 96 66 [.ref x0, .int x1, .int x2] (st) h Q) ∧ (¬ y0 = 0 → WP 96 60 [.ref x0, .int x1, .int x2] (st) h Q))) ∧
  (∀ (x0 : Nat) (x1 : Int32) (x2 : Int32) (st : List Value) (h : AH) (Q : Option Value → AH → Prop), WP 96 60 [.ref x0, .int x1, .int x2] (st) h Q ↔ WP 96 63 [.ref x0, .int (x1 + (1)), .int x2] (st) h Q) ∧
  (∀ (x0 : Nat) (x1 : Int32) (x2 : Int32) (st : List Value) (h : AH) (Q : Option Value → AH → Prop), WP 96 63 [.ref x0, .int x1, .int x2] (st) h Q ↔ WP 96 69 [.ref x0, .int x1, .int x2] (st) h Q) ∧
  (∀ (x0 : Nat) (x1 : Int32) (x2 : Int32) (st : List Value) (h : AH) (Q : Option Value → AH → Prop), WP 96 66 [.ref x0, .int x1, .int x2] (st) h Q ↔ WP 96 69 [.ref x0, .int x1, .int (x2 + (1))] (st) h Q) ∧
  (∀ (x0 : Nat) (x1 : Int32) (x2 : Int32) (st : List Value) (h : AH) (Q : Option Value → AH → Prop), WP 96 69 [.ref x0, .int x1, .int x2] (st) h Q ↔ WP 96 70 [.ref x0, .int x1, .int x2] (.ref x0 :: st) h Q) ∧
  (∀ (x0 : Nat) (x1 : Int32) (x2 : Int32) (y0 : Nat) (st : List Value) (h : AH) (Q : Option Value → AH → Prop), WP 96 70 [.ref x0, .int x1, .int x2] (.ref y0 :: st) h Q ↔ WP 96 71 [.ref x0, .int x1, .int x2] (.ref y0 :: .ref y0 :: st) h Q) ∧
  (∀ (x0 : Nat) (x1 : Int32) (x2 : Int32) (y0 : Nat) (st : List Value) (h : AH) (Q : Option Value → AH → Prop) (ht : hT h y0 = 11), WP 96 71 [.ref x0, .int x1, .int x2] (.ref y0 :: st) h Q ↔ WP 96 74 [.ref x0, .int x1, .int x2] (.int (hI h y0 3) :: st) h Q) ∧
  (∀ (x0 : Nat) (x1 : Int32) (x2 : Int32) (st : List Value) (h : AH) (Q : Option Value → AH → Prop), WP 96 74 [.ref x0, .int x1, .int x2] (st) h Q ↔ WP 96 75 [.ref x0, .int x1, .int x2] (.int (1) :: st) h Q) ∧
  (∀ (x0 : Nat) (x1 : Int32) (x2 : Int32) (y0 : Int32) (y1 : Int32) (st : List Value) (h : AH) (Q : Option Value → AH → Prop), WP 96 75 [.ref x0, .int x1, .int x2] (.int y0 :: .int y1 :: st) h Q ↔ WP 96 76 [.ref x0, .int x1, .int x2] (.int (y1 + y0) :: st) h Q) ∧
  (∀ (x0 : Nat) (x1 : Int32) (x2 : Int32) (y0 : Int32) (y1 : Nat) (st : List Value) (h : AH) (Q : Option Value → AH → Prop) (ht : hT h y1 = 11), WP 96 76 [.ref x0, .int x1, .int x2] (.int y0 :: .ref y1 :: st) h Q ↔ WP 96 79 [.ref x0, .int x1, .int x2] (st) (sI h y1 3 y0) Q) ∧
  (∀ (x0 : Nat) (x1 : Int32) (x2 : Int32) (st : List Value) (h : AH) (Q : Option Value → AH → Prop), WP 96 79 [.ref x0, .int x1, .int x2] (st) h Q ↔ WP 96 4 [.ref x0, .int x1, .int x2] (st) h Q) ∧
  (∀ (x0 : Nat) (x1 : Int32) (x2 : Int32) (st : List Value) (h : AH) (Q : Option Value → AH → Prop), WP 96 82 [.ref x0, .int x1, .int x2] (st) h Q ↔ WP 96 83 [.ref x0, .int x1, .int x2] (.int x2 :: st) h Q) :=
  ⟨fun _ _ _ _ => WP_s (show ct 96 0 = some (.iconst 0, 0, []) by decide +kernel) rfl,
  fun _ _ _ _ _ => WP_s (show ct 96 1 = some (.istore_n 1, 0, []) by decide +kernel) rfl,
  fun _ _ _ _ _ => WP_s (show ct 96 2 = some (.iconst 0, 0, []) by decide +kernel) rfl,
  fun _ _ _ _ _ _ => WP_s (show ct 96 3 = some (.istore_n 2, 0, []) by decide +kernel) rfl,
  fun _ _ _ _ _ _ _ ht => WH_gI (show ct 96 5 = some (.getfield 50, 1, [10, 3, 0, 283]) by decide +kernel) (by decide) ht,
  fun _ _ _ _ _ _ => WP_s (show ct 96 8 = some (.aload_n 0, 0, []) by decide +kernel) rfl,
  fun _ _ _ _ _ _ _ ht => WH_gI (show ct 96 9 = some (.getfield 47, 1, [10, 2, 0, 282]) by decide +kernel) (by decide) ht,
  fun _ _ _ _ _ _ _ _ => WI_ge (show ct 96 12 = some (.if_icmp .ge 70, 0, [82]) by decide +kernel) (by decide),
  fun _ _ _ _ _ _ => WP_s (show ct 96 15 = some (.aload_n 0, 0, []) by decide +kernel) rfl,
  fun _ _ _ _ _ _ _ ht => WH_gR (show ct 96 16 = some (.getfield 33, 1, [10, 1, 2, 281]) by decide +kernel) ht,
  fun _ _ _ _ _ _ => WP_s (show ct 96 19 = some (.aload_n 0, 0, []) by decide +kernel) rfl,
  fun _ _ _ _ _ _ _ ht => WH_gI (show ct 96 20 = some (.getfield 50, 1, [10, 3, 0, 283]) by decide +kernel) (by decide) ht,
  fun _ _ _ _ _ _ _ _ ht hi => WH_bald (show ct 96 23 = some (.baload, 1, []) by decide +kernel) ht hi,
  fun _ _ _ _ _ _ => WC_0 (show ct 96 24 = some (.invokestatic 60, 3, [102, 1, 0, 0, 0, 654, 655, 0]) by decide +kernel) (Nat.le_of_ble_eq_true rfl) (Nat.le_of_ble_eq_true rfl) rfl rfl,
  fun _ _ _ _ _ _ _ => WZ_ne (show ct 96 27 = some (.ifCond .ne 18, 0, [45]) by decide +kernel) (by decide),
  fun _ _ _ _ _ _ => WP_s (show ct 96 30 = some (.aload_n 0, 0, []) by decide +kernel) rfl,
  fun _ _ _ _ _ _ _ ht => WH_gR (show ct 96 31 = some (.getfield 33, 1, [10, 1, 2, 281]) by decide +kernel) ht,
  fun _ _ _ _ _ _ => WP_s (show ct 96 34 = some (.aload_n 0, 0, []) by decide +kernel) rfl,
  fun _ _ _ _ _ _ _ ht => WH_gI (show ct 96 35 = some (.getfield 50, 1, [10, 3, 0, 283]) by decide +kernel) (by decide) ht,
  fun _ _ _ _ _ _ _ _ ht hi => WH_bald (show ct 96 38 = some (.baload, 1, []) by decide +kernel) ht hi,
  fun _ _ _ _ _ _ => WC_0 (show ct 96 39 = some (.invokestatic 63, 3, [103, 1, 0, 0, 0, 657, 658, 0]) by decide +kernel) (Nat.le_of_ble_eq_true rfl) (Nat.le_of_ble_eq_true rfl) rfl rfl,
  fun _ _ _ _ _ _ _ => WZ_eq (show ct 96 42 = some (.ifCond .eq 40, 0, [82]) by decide +kernel) (by decide),
  fun _ _ _ _ _ _ => WP_s (show ct 96 45 = some (.aload_n 0, 0, []) by decide +kernel) rfl,
  fun _ _ _ _ _ _ _ ht => WH_gR (show ct 96 46 = some (.getfield 33, 1, [10, 1, 2, 281]) by decide +kernel) ht,
  fun _ _ _ _ _ _ => WP_s (show ct 96 49 = some (.aload_n 0, 0, []) by decide +kernel) rfl,
  fun _ _ _ _ _ _ _ ht => WH_gI (show ct 96 50 = some (.getfield 50, 1, [10, 3, 0, 283]) by decide +kernel) (by decide) ht,
  fun _ _ _ _ _ _ _ _ ht hi => WH_bald (show ct 96 53 = some (.baload, 1, []) by decide +kernel) ht hi,
  fun _ _ _ _ _ _ => WC_0 (show ct 96 54 = some (.invokestatic 60, 3, [102, 1, 0, 0, 0, 654, 655, 0]) by decide +kernel) (Nat.le_of_ble_eq_true rfl) (Nat.le_of_ble_eq_true rfl) rfl rfl,
  fun _ _ _ _ _ _ _ => WZ_eq (show ct 96 57 = some (.ifCond .eq 9, 0, [66]) by decide +kernel) (by decide),
  fun _ _ _ _ _ _ => WP_s (show ct 96 60 = some (.iinc 1 1, 0, []) by decide +kernel) rfl,
  fun _ _ _ _ _ _ => WP_s (show ct 96 63 = some (.goto 6, 0, [69]) by decide +kernel) rfl,
  fun _ _ _ _ _ _ => WP_s (show ct 96 66 = some (.iinc 2 1, 0, []) by decide +kernel) rfl,
  fun _ _ _ _ _ _ => WP_s (show ct 96 69 = some (.aload_n 0, 0, []) by decide +kernel) rfl,
  fun _ _ _ _ _ _ _ => WP_s (show ct 96 70 = some (.dup, 0, []) by decide +kernel) rfl,
  fun _ _ _ _ _ _ _ ht => WH_gI (show ct 96 71 = some (.getfield 50, 1, [10, 3, 0, 283]) by decide +kernel) (by decide) ht,
  fun _ _ _ _ _ _ => WP_s (show ct 96 74 = some (.iconst 1, 0, []) by decide +kernel) rfl,
  fun _ _ _ _ _ _ _ _ => WP_s (show ct 96 75 = some (.iadd, 0, []) by decide +kernel) rfl,
  fun _ _ _ _ _ _ _ _ ht => WH_pI (show ct 96 76 = some (.putfield 50, 1, [10, 3, 0, 0, 283]) by decide +kernel) ht,
  fun _ _ _ _ _ _ => WP_s (show ct 96 79 = some (.goto (-75), 0, [4]) by decide +kernel) rfl,
  fun _ _ _ _ _ _ => WP_s (show ct 96 82 = some (.iload_n 2, 0, []) by decide +kernel) rfl⟩
set_option maxRecDepth 10000 in
theorem w96_b : (∀ (x0 : Nat) (x1 : Int32) (x2 : Int32) (y0 : Int32) (st : List Value) (h : AH) (Q : Option Value → AH → Prop), WP 96 83 [.ref x0, .int x1, .int x2] (.int y0 :: st) h Q ↔ ((¬ y0 = 0 → WP 96 115 [.ref x0, .int x1, .int x2] (st) h Q) ∧ (y0 = 0 → WP 96 86 [.ref x0, .int x1, .int x2] (st) h Q))) ∧
  (∀ (x0 : Nat) (x1 : Int32) (x2 : Int32) (st : List Value) (h : AH) (Q : Option Value → AH → Prop), WP 96 86 [.ref x0, .int x1, .int x2] (st) h Q ↔ WP 96 87 [.ref x0, .int x1, .int x2] (.int x1 :: st) h Q) ∧
  (∀ (x0 : Nat) (x1 : Int32) (x2 : Int32) (st : List Value) (h : AH) (Q : Option Value → AH → Prop), WP 96 87 [.ref x0, .int x1, .int x2] (st) h Q ↔ WP 96 89 [.ref x0, .int x1, .int x2] (.int (6) :: st) h Q) ∧
  (∀ (x0 : Nat) (x1 : Int32) (x2 : Int32) (y0 : Int32) (y1 : Int32) (st : List Value) (h : AH) (Q : Option Value → AH → Prop), WP 96 89 [.ref x0, .int x1, .int x2] (.int y0 :: .int y1 :: st) h Q ↔ ((y0 < y1 → WP 96 115 [.ref x0, .int x1, .int x2] (st) h Q) ∧ (¬ y0 < y1 → WP 96 92 [.ref x0, .int x1, .int x2] (st) h Q))) ∧
  (∀ (x0 : Nat) (x1 : Int32) (x2 : Int32) (st : List Value) (h : AH) (Q : Option Value → AH → Prop), WP 96 92 [.ref x0, .int x1, .int x2] (st) h Q ↔ WP 96 93 [.ref x0, .int x1, .int x2] (.ref x0 :: st) h Q) ∧
  (∀ (x0 : Nat) (x1 : Int32) (x2 : Int32) (st : List Value) (h : AH) (Q : Option Value → AH → Prop), WP 96 93 [.ref x0, .int x1, .int x2] (st) h Q ↔ WP 96 94 [.ref x0, .int x1, .int x2] (.ref x0 :: st) h Q) ∧
  (∀ (x0 : Nat) (x1 : Int32) (x2 : Int32) (y1 : Nat) (y0 : Nat) (h : AH) (Q : Option Value → AH → Prop) (ht : hT h y0 = 11), WP 96 94 [.ref x0, .int x1, .int x2] ([.ref y0, .ref y1]) h Q ↔ WPM 97 [.ref y0] h (fun r h' => WP 96 97 [.ref x0, .int x1, .int x2] (r.toList ++ [.ref y1]) h' Q)) ∧
  (∀ (x0 : Nat) (x1 : Int32) (x2 : Int32) (y0 : Int32) (y1 : Nat) (st : List Value) (h : AH) (Q : Option Value → AH → Prop) (ht : hT h y1 = 11), WP 96 97 [.ref x0, .int x1, .int x2] (.int y0 :: .ref y1 :: st) h Q ↔ WP 96 100 [.ref x0, .int x1, .int x2] (st) (sI h y1 6 y0) Q) ∧
  (∀ (x0 : Nat) (x1 : Int32) (x2 : Int32) (st : List Value) (h : AH) (Q : Option Value → AH → Prop), WP 96 100 [.ref x0, .int x1, .int x2] (st) h Q ↔ WP 96 101 [.ref x0, .int x1, .int x2] (.ref x0 :: st) h Q) ∧
  (∀ (x0 : Nat) (x1 : Int32) (x2 : Int32) (st : List Value) (h : AH) (Q : Option Value → AH → Prop), WP 96 101 [.ref x0, .int x1, .int x2] (st) h Q ↔ WP 96 102 [.ref x0, .int x1, .int x2] (.ref x0 :: st) h Q) ∧
  (∀ (x0 : Nat) (x1 : Int32) (x2 : Int32) (st : List Value) (h : AH) (Q : Option Value → AH → Prop), WP 96 102 [.ref x0, .int x1, .int x2] (st) h Q ↔ WP 96 103 [.ref x0, .int x1, .int x2] (.ref x0 :: st) h Q) ∧
  (∀ (x0 : Nat) (x1 : Int32) (x2 : Int32) (y0 : Nat) (st : List Value) (h : AH) (Q : Option Value → AH → Prop) (ht : hT h y0 = 11), WP 96 103 [.ref x0, .int x1, .int x2] (.ref y0 :: st) h Q ↔ WP 96 106 [.ref x0, .int x1, .int x2] (.int (hI h y0 6) :: st) h Q) ∧
  (∀ (x0 : Nat) (x1 : Int32) (x2 : Int32) (y2 : Nat) (y1 : Nat) (y0 : Int32) (h : AH) (Q : Option Value → AH → Prop) (ht : hT h y1 = 11), WP 96 106 [.ref x0, .int x1, .int x2] ([.int y0, .ref y1, .ref y2]) h Q ↔ WPM 99 [.ref y1, .int y0] h (fun r h' => WP 96 109 [.ref x0, .int x1, .int x2] (r.toList ++ [.ref y2]) h' Q)) ∧
  (∀ (x0 : Nat) (x1 : Int32) (x2 : Int32) (y0 : Int32) (y1 : Nat) (st : List Value) (h : AH) (Q : Option Value → AH → Prop) (ht : hT h y1 = 11), WP 96 109 [.ref x0, .int x1, .int x2] (.int y0 :: .ref y1 :: st) h Q ↔ WP 96 112 [.ref x0, .int x1, .int x2] (st) (sI h y1 4 y0) Q) ∧
  (∀ (x0 : Nat) (x1 : Int32) (x2 : Int32) (st : List Value) (h : AH) (Q : Option Value → AH → Prop), WP 96 112 [.ref x0, .int x1, .int x2] (st) h Q ↔ WP 96 147 [.ref x0, .int x1, .int x2] (st) h Q) ∧
  (∀ (x0 : Nat) (x1 : Int32) (x2 : Int32) (st : List Value) (h : AH) (Q : Option Value → AH → Prop), WP 96 115 [.ref x0, .int x1, .int x2] (st) h Q ↔ WP 96 116 [.ref x0, .int x1, .int x2] (.int x1 :: st) h Q) ∧
  (∀ (x0 : Nat) (x1 : Int32) (x2 : Int32) (y0 : Int32) (st : List Value) (h : AH) (Q : Option Value → AH → Prop), WP 96 116 [.ref x0, .int x1, .int x2] (.int y0 :: st) h Q ↔ ((¬ y0 = 0 → WP 96 141 [.ref x0, .int x1, .int x2] (st) h Q) ∧ (y0 = 0 → WP 96 119 [.ref x0, .int x1, .int x2] (st) h Q))) ∧
  (∀ (x0 : Nat) (x1 : Int32) (x2 : Int32) (st : List Value) (h : AH) (Q : Option Value → AH → Prop), WP 96 119 [.ref x0, .int x1, .int x2] (st) h Q ↔ WP 96 120 [.ref x0, .int x1, .int x2] (.int x2 :: st) h Q) ∧
  (∀ (x0 : Nat) (x1 : Int32) (x2 : Int32) (st : List Value) (h : AH) (Q : Option Value → AH → Prop), WP 96 120 [.ref x0, .int x1, .int x2] (st) h Q ↔ WP 96 121 [.ref x0, .int x1, .int x2] (.int (2) :: st) h Q) ∧
  (∀ (x0 : Nat) (x1 : Int32) (x2 : Int32) (y0 : Int32) (y1 : Int32) (st : List Value) (h : AH) (Q : Option Value → AH → Prop), WP 96 121 [.ref x0, .int x1, .int x2] (.int y0 :: .int y1 :: st) h Q ↔ ((y0 < y1 → WP 96 141 [.ref x0, .int x1, .int x2] (st) h Q) ∧ (¬ y0 < y1 → WP 96 124 [.ref x0, .int x1, .int x2] (st) h Q))) ∧
  (∀ (x0 : Nat) (x1 : Int32) (x2 : Int32) (st : List Value) (h : AH) (Q : Option Value → AH → Prop), WP 96 124 [.ref x0, .int x1, .int x2] (st) h Q ↔ WP 96 125 [.ref x0, .int x1, .int x2] (.ref x0 :: st) h Q) ∧
  (∀ (x0 : Nat) (x1 : Int32) (x2 : Int32) (st : List Value) (h : AH) (Q : Option Value → AH → Prop), WP 96 125 [.ref x0, .int x1, .int x2] (st) h Q ↔ WP 96 126 [.ref x0, .int x1, .int x2] (.ref x0 :: st) h Q) ∧
  (∀ (x0 : Nat) (x1 : Int32) (x2 : Int32) (y1 : Nat) (y0 : Nat) (h : AH) (Q : Option Value → AH → Prop) (ht : hT h y0 = 11), WP 96 126 [.ref x0, .int x1, .int x2] ([.ref y0, .ref y1]) h Q ↔ WPM 98 [.ref y0] h (fun r h' => WP 96 129 [.ref x0, .int x1, .int x2] (r.toList ++ [.ref y1]) h' Q)) ∧
  (∀ (x0 : Nat) (x1 : Int32) (x2 : Int32) (y0 : Int32) (y1 : Nat) (st : List Value) (h : AH) (Q : Option Value → AH → Prop) (ht : hT h y1 = 11), WP 96 129 [.ref x0, .int x1, .int x2] (.int y0 :: .ref y1 :: st) h Q ↔ WP 96 132 [.ref x0, .int x1, .int x2] (st) (sI h y1 6 y0) Q) ∧
  (∀ (x0 : Nat) (x1 : Int32) (x2 : Int32) (st : List Value) (h : AH) (Q : Option Value → AH → Prop), WP 96 132 [.ref x0, .int x1, .int x2] (st) h Q ↔ WP 96 133 [.ref x0, .int x1, .int x2] (.ref x0 :: st) h Q) ∧
  (∀ (x0 : Nat) (x1 : Int32) (x2 : Int32) (st : List Value) (h : AH) (Q : Option Value → AH → Prop), WP 96 133 [.ref x0, .int x1, .int x2] (st) h Q ↔ WP 96 135 [.ref x0, .int x1, .int x2] (.int (8) :: st) h Q) ∧
  (∀ (x0 : Nat) (x1 : Int32) (x2 : Int32) (y0 : Int32) (y1 : Nat) (st : List Value) (h : AH) (Q : Option Value → AH → Prop) (ht : hT h y1 = 11), WP 96 135 [.ref x0, .int x1, .int x2] (.int y0 :: .ref y1 :: st) h Q ↔ WP 96 138 [.ref x0, .int x1, .int x2] (st) (sI h y1 4 y0) Q) ∧
  (∀ (x0 : Nat) (x1 : Int32) (x2 : Int32) (st : List Value) (h : AH) (Q : Option Value → AH → Prop), WP 96 138 [.ref x0, .int x1, .int x2] (st) h Q ↔ WP 96 147 [.ref x0, .int x1, .int x2] (st) h Q) ∧
  (∀ (x0 : Nat) (x1 : Int32) (x2 : Int32) (st : List Value) (h : AH) (Q : Option Value → AH → Prop), WP 96 141 [.ref x0, .int x1, .int x2] (st) h Q ↔ WP 96 142 [.ref x0, .int x1, .int x2] (.ref x0 :: st) h Q) ∧
  (∀ (x0 : Nat) (x1 : Int32) (x2 : Int32) (st : List Value) (h : AH) (Q : Option Value → AH → Prop), WP 96 142 [.ref x0, .int x1, .int x2] (st) h Q ↔ WP 96 144 [.ref x0, .int x1, .int x2] (.int (11) :: st) h Q) ∧
  (∀ (x0 : Nat) (x1 : Int32) (x2 : Int32) (y0 : Int32) (y1 : Nat) (st : List Value) (h : AH) (Q : Option Value → AH → Prop) (ht : hT h y1 = 11), WP 96 144 [.ref x0, .int x1, .int x2] (.int y0 :: .ref y1 :: st) h Q ↔ WP 96 147 [.ref x0, .int x1, .int x2] (st) (sI h y1 4 y0) Q) ∧
  (∀ (x0 : Nat) (x1 : Int32) (x2 : Int32) (h : AH) (Q : Option Value → AH → Prop), WP 96 147 [.ref x0, .int x1, .int x2] ([]) h Q ↔ Q none h) :=
  ⟨fun _ _ _ _ _ _ _ => WZ_ne (show ct 96 83 = some (.ifCond .ne 32, 0, [115]) by decide +kernel) (by decide),
  fun _ _ _ _ _ _ => WP_s (show ct 96 86 = some (.iload_n 1, 0, []) by decide +kernel) rfl,
  fun _ _ _ _ _ _ => WP_s (show ct 96 87 = some (.bipush 6, 0, []) by decide +kernel) rfl,
  fun _ _ _ _ _ _ _ _ => WI_gt (show ct 96 89 = some (.if_icmp .gt 26, 0, [115]) by decide +kernel) (by decide),
  fun _ _ _ _ _ _ => WP_s (show ct 96 92 = some (.aload_n 0, 0, []) by decide +kernel) rfl,
  fun _ _ _ _ _ _ => WP_s (show ct 96 93 = some (.aload_n 0, 0, []) by decide +kernel) rfl,
  fun _ _ _ _ _ _ _ ht => WC_1 (show ct 96 94 = some (.invokevirtual 69, 3, [97, 1, 1, 11, 0, 664, 666, 4]) by decide +kernel) (Nat.le_of_ble_eq_true rfl) (Nat.le_of_ble_eq_true rfl) rfl rfl ht,
  fun _ _ _ _ _ _ _ _ ht => WH_pI (show ct 96 97 = some (.putfield 73, 1, [10, 6, 0, 0, 288]) by decide +kernel) ht,
  fun _ _ _ _ _ _ => WP_s (show ct 96 100 = some (.aload_n 0, 0, []) by decide +kernel) rfl,
  fun _ _ _ _ _ _ => WP_s (show ct 96 101 = some (.aload_n 0, 0, []) by decide +kernel) rfl,
  fun _ _ _ _ _ _ => WP_s (show ct 96 102 = some (.aload_n 0, 0, []) by decide +kernel) rfl,
  fun _ _ _ _ _ _ _ ht => WH_gI (show ct 96 103 = some (.getfield 73, 1, [10, 6, 0, 288]) by decide +kernel) (by decide) ht,
  fun _ _ _ _ _ _ _ _ ht => WC_1 (show ct 96 106 = some (.invokevirtual 76, 3, [99, 2, 1, 11, 0, 668, 670, 5]) by decide +kernel) (Nat.le_of_ble_eq_true rfl) (Nat.le_of_ble_eq_true rfl) rfl rfl ht,
  fun _ _ _ _ _ _ _ _ ht => WH_pI (show ct 96 109 = some (.putfield 37, 1, [10, 4, 0, 0, 284]) by decide +kernel) ht,
  fun _ _ _ _ _ _ => WP_s (show ct 96 112 = some (.goto 35, 0, [147]) by decide +kernel) rfl,
  fun _ _ _ _ _ _ => WP_s (show ct 96 115 = some (.iload_n 1, 0, []) by decide +kernel) rfl,
  fun _ _ _ _ _ _ _ => WZ_ne (show ct 96 116 = some (.ifCond .ne 25, 0, [141]) by decide +kernel) (by decide),
  fun _ _ _ _ _ _ => WP_s (show ct 96 119 = some (.iload_n 2, 0, []) by decide +kernel) rfl,
  fun _ _ _ _ _ _ => WP_s (show ct 96 120 = some (.iconst 2, 0, []) by decide +kernel) rfl,
  fun _ _ _ _ _ _ _ _ => WI_gt (show ct 96 121 = some (.if_icmp .gt 20, 0, [141]) by decide +kernel) (by decide),
  fun _ _ _ _ _ _ => WP_s (show ct 96 124 = some (.aload_n 0, 0, []) by decide +kernel) rfl,
  fun _ _ _ _ _ _ => WP_s (show ct 96 125 = some (.aload_n 0, 0, []) by decide +kernel) rfl,
  fun _ _ _ _ _ _ _ ht => WC_1 (show ct 96 126 = some (.invokevirtual 80, 3, [98, 1, 1, 11, 0, 672, 674, 6]) by decide +kernel) (Nat.le_of_ble_eq_true rfl) (Nat.le_of_ble_eq_true rfl) rfl rfl ht,
  fun _ _ _ _ _ _ _ _ ht => WH_pI (show ct 96 129 = some (.putfield 73, 1, [10, 6, 0, 0, 288]) by decide +kernel) ht,
  fun _ _ _ _ _ _ => WP_s (show ct 96 132 = some (.aload_n 0, 0, []) by decide +kernel) rfl,
  fun _ _ _ _ _ _ => WP_s (show ct 96 133 = some (.bipush 8, 0, []) by decide +kernel) rfl,
  fun _ _ _ _ _ _ _ _ ht => WH_pI (show ct 96 135 = some (.putfield 37, 1, [10, 4, 0, 0, 284]) by decide +kernel) ht,
  fun _ _ _ _ _ _ => WP_s (show ct 96 138 = some (.goto 9, 0, [147]) by decide +kernel) rfl,
  fun _ _ _ _ _ _ => WP_s (show ct 96 141 = some (.aload_n 0, 0, []) by decide +kernel) rfl,
  fun _ _ _ _ _ _ => WP_s (show ct 96 142 = some (.bipush 11, 0, []) by decide +kernel) rfl,
  fun _ _ _ _ _ _ _ _ ht => WH_pI (show ct 96 144 = some (.putfield 37, 1, [10, 4, 0, 0, 284]) by decide +kernel) ht,
  fun _ _ _ _ _ => WR_v (show ct 96 147 = some (.return_, 2, [0]) by decide +kernel)⟩
/-- all of 96 -/
def w96_n : Nat := 2
/-! 97: FewBowls$Tokens.wordValue()I; loop heads [7] -/
theorem w97_7 : ∀ (x0 : Nat) (x1 : Int32) (x2 : Int32) (st : List Value) (h : AH) (Q : Option Value → AH → Prop), WP 97 7 [.ref x0, .int x1, .int x2] (st) h Q ↔ WP 97 8 [.ref x0, .int x1, .int x2] (.int x2 :: st) h Q := fun _ _ _ _ _ _ => WP_s (show ct 97 7 = some (.iload_n 2, 0, []) by decide +kernel) rfl
set_option maxRecDepth 10000 in
theorem w97 : (∀ (x0 : Nat) (st : List Value) (h : AH) (Q : Option Value → AH → Prop), WP 97 0 [.ref x0, .retAddr 0, .retAddr 0] (st) h Q ↔ WP 97 1 [.ref x0, .retAddr 0, .retAddr 0] (.int (0) :: st) h Q) ∧
  (∀ (x0 : Nat) (y0 : Int32) (st : List Value) (h : AH) (Q : Option Value → AH → Prop), WP 97 1 [.ref x0, .retAddr 0, .retAddr 0] (.int y0 :: st) h Q ↔ WP 97 2 [.ref x0, .int y0, .retAddr 0] (st) h Q) ∧
  (∀ (x0 : Nat) (x1 : Int32) (st : List Value) (h : AH) (Q : Option Value → AH → Prop), WP 97 2 [.ref x0, .int x1, .retAddr 0] (st) h Q ↔ WP 97 3 [.ref x0, .int x1, .retAddr 0] (.ref x0 :: st) h Q) ∧
  (∀ (x0 : Nat) (x1 : Int32) (y0 : Nat) (st : List Value) (h : AH) (Q : Option Value → AH → Prop) (ht : hT h y0 = 11), WP 97 3 [.ref x0, .int x1, .retAddr 0] (.ref y0 :: st) h Q ↔ WP 97 6 [.ref x0, .int x1, .retAddr 0] (.int (hI h y0 5) :: st) h Q) ∧
  (∀ (x0 : Nat) (x1 : Int32) (y0 : Int32) (st : List Value) (h : AH) (Q : Option Value → AH → Prop), WP 97 6 [.ref x0, .int x1, .retAddr 0] (.int y0 :: st) h Q ↔ WP 97 7 [.ref x0, .int x1, .int y0] (st) h Q) ∧
  (∀ (x0 : Nat) (x1 : Int32) (x2 : Int32) (st : List Value) (h : AH) (Q : Option Value → AH → Prop), WP 97 8 [.ref x0, .int x1, .int x2] (st) h Q ↔ WP 97 9 [.ref x0, .int x1, .int x2] (.ref x0 :: st) h Q) ∧
  (∀ (x0 : Nat) (x1 : Int32) (x2 : Int32) (y0 : Nat) (st : List Value) (h : AH) (Q : Option Value → AH → Prop) (ht : hT h y0 = 11), WP 97 9 [.ref x0, .int x1, .int x2] (.ref y0 :: st) h Q ↔ WP 97 12 [.ref x0, .int x1, .int x2] (.int (hI h y0 3) :: st) h Q) ∧
  (∀ (x0 : Nat) (x1 : Int32) (x2 : Int32) (y0 : Int32) (y1 : Int32) (st : List Value) (h : AH) (Q : Option Value → AH → Prop), WP 97 12 [.ref x0, .int x1, .int x2] (.int y0 :: .int y1 :: st) h Q ↔ ((y0 ≤ y1 → WP 97 36 [.ref x0, .int x1, .int x2] (st) h Q) ∧ (¬ y0 ≤ y1 → WP 97 15 [.ref x0, .int x1, .int x2] (st) h Q))) ∧
  (∀ (x0 : Nat) (x1 : Int32) (x2 : Int32) (st : List Value) (h : AH) (Q : Option Value → AH → Prop), WP 97 15 [.ref x0, .int x1, .int x2] (st) h Q ↔ WP 97 16 [.ref x0, .int x1, .int x2] (.int x1 :: st) h Q) ∧
  (∀ (x0 : Nat) (x1 : Int32) (x2 : Int32) (st : List Value) (h : AH) (Q : Option Value → AH → Prop), WP 97 16 [.ref x0, .int x1, .int x2] (st) h Q ↔ WP 97 18 [.ref x0, .int x1, .int x2] (.int (27) :: st) h Q) ∧
  (∀ (x0 : Nat) (x1 : Int32) (x2 : Int32) (y0 : Int32) (y1 : Int32) (st : List Value) (h : AH) (Q : Option Value → AH → Prop), WP 97 18 [.ref x0, .int x1, .int x2] (.int y0 :: .int y1 :: st) h Q ↔ WP 97 19 [.ref x0, .int x1, .int x2] (.int (y1 * y0) :: st) h Q) ∧
  (∀ (x0 : Nat) (x1 : Int32) (x2 : Int32) (st : List Value) (h : AH) (Q : Option Value → AH → Prop), WP 97 19 [.ref x0, .int x1, .int x2] (st) h Q ↔ WP 97 20 [.ref x0, .int x1, .int x2] (.ref x0 :: st) h Q) ∧
  (∀ (x0 : Nat) (x1 : Int32) (x2 : Int32) (y0 : Nat) (st : List Value) (h : AH) (Q : Option Value → AH → Prop) (ht : hT h y0 = 11), WP 97 20 [.ref x0, .int x1, .int x2] (.ref y0 :: st) h Q ↔ WP 97 23 [.ref x0, .int x1, .int x2] (.ref (hR h y0 1) :: st) h Q) ∧
  (∀ (x0 : Nat) (x1 : Int32) (x2 : Int32) (st : List Value) (h : AH) (Q : Option Value → AH → Prop), WP 97 23 [.ref x0, .int x1, .int x2] (st) h Q ↔ WP 97 24 [.ref x0, .int x1, .int x2] (.int x2 :: st) h Q) ∧
  (∀ (x0 : Nat) (x1 : Int32) (x2 : Int32) (y0 : Int32) (y1 : Nat) (st : List Value) (h : AH) (Q : Option Value → AH → Prop) (ht : hT h y1 = 101 ∨ hT h y1 = 102) (hi : inb y0 (hL h y1) = true), WP 97 24 [.ref x0, .int x1, .int x2] (.int y0 :: .ref y1 :: st) h Q ↔ WP 97 25 [.ref x0, .int x1, .int x2] (.int (hI h y1 y0.toNatClampNeg) :: st) h Q) ∧
  (∀ (x0 : Nat) (x1 : Int32) (x2 : Int32) (y0 : Int32) (y1 : Int32) (st : List Value) (h : AH) (Q : Option Value → AH → Prop), WP 97 25 [.ref x0, .int x1, .int x2] (.int y0 :: .int y1 :: st) h Q ↔ WP 97 26 [.ref x0, .int x1, .int x2] (.int (y1 + y0) :: st) h Q) ∧
  (∀ (x0 : Nat) (x1 : Int32) (x2 : Int32) (st : List Value) (h : AH) (Q : Option Value → AH → Prop), WP 97 26 [.ref x0, .int x1, .int x2] (st) h Q ↔ WP 97 28 [.ref x0, .int x1, .int x2] (.int (96) :: st) h Q) ∧
  (∀ (x0 : Nat) (x1 : Int32) (x2 : Int32) (y0 : Int32) (y1 : Int32) (st : List Value) (h : AH) (Q : Option Value → AH → Prop), WP 97 28 [.ref x0, .int x1, .int x2] (.int y0 :: .int y1 :: st) h Q ↔ WP 97 29 [.ref x0, .int x1, .int x2] (.int (y1 - y0) :: st) h Q) ∧
  (∀ (x0 : Nat) (x1 : Int32) (x2 : Int32) (y0 : Int32) (st : List Value) (h : AH) (Q : Option Value → AH → Prop), WP 97 29 [.ref x0, .int x1, .int x2] (.int y0 :: st) h Q ↔ WP 97 30 [.ref x0, .int y0, .int x2] (st) h Q) ∧
  (∀ (x0 : Nat) (x1 : Int32) (x2 : Int32) (st : List Value) (h : AH) (Q : Option Value → AH → Prop), WP 97 30 [.ref x0, .int x1, .int x2] (st) h Q ↔ WP 97 33 [.ref x0, .int x1, .int (x2 + (1))] (st) h Q) ∧
  (∀ (x0 : Nat) (x1 : Int32) (x2 : Int32) (st : List Value) (h : AH) (Q : Option Value → AH → Prop), WP 97 33 [.ref x0, .int x1, .int x2] (st) h Q ↔ WP 97 7 [.ref x0, .int x1, .int x2] (st) h Q) ∧
  (∀ (x0 : Nat) (x1 : Int32) (x2 : Int32) (st : List Value) (h : AH) (Q : Option Value → AH → Prop), WP 97 36 [.ref x0, .int x1, .int x2] (st) h Q ↔ WP 97 37 [.ref x0, .int x1, .int x2] (.int x1 :: st) h Q) ∧
  (∀ (x0 : Nat) (x1 : Int32) (x2 : Int32) (y0 : Int32) (h : AH) (Q : Option Value → AH → Prop), WP 97 37 [.ref x0, .int x1, .int x2] ([.int y0]) h Q ↔ Q (some (.int y0)) h) :=
  ⟨fun _ _ _ _ => WP_s (show ct 97 0 = some (.iconst 0, 0, []) by decide +kernel) rfl,
  fun _ _ _ _ _ => WP_s (show ct 97 1 = some (.istore_n 1, 0, []) by decide +kernel) rfl,
  fun _ _ _ _ _ => WP_s (show ct 97 2 = some (.aload_n 0, 0, []) by decide +kernel) rfl,
  fun _ _ _ _ _ _ ht => WH_gI (show ct 97 3 = some (.getfield 57, 1, [10, 5, 0, 287]) by decide +kernel) (by decide) ht,
  fun _ _ _ _ _ _ => WP_s (show ct 97 6 = some (.istore_n 2, 0, []) by decide +kernel) rfl,
  fun _ _ _ _ _ _ => WP_s (show ct 97 8 = some (.aload_n 0, 0, []) by decide +kernel) rfl,
  fun _ _ _ _ _ _ _ ht => WH_gI (show ct 97 9 = some (.getfield 50, 1, [10, 3, 0, 283]) by decide +kernel) (by decide) ht,
  fun _ _ _ _ _ _ _ _ => WI_ge (show ct 97 12 = some (.if_icmp .ge 24, 0, [36]) by decide +kernel) (by decide),
  fun _ _ _ _ _ _ => WP_s (show ct 97 15 = some (.iload_n 1, 0, []) by decide +kernel) rfl,
  fun _ _ _ _ _ _ => WP_s (show ct 97 16 = some (.bipush 27, 0, []) by decide +kernel) rfl,
  fun _ _ _ _ _ _ _ _ => WP_s (show ct 97 18 = some (.imul, 0, []) by decide +kernel) rfl,
  fun _ _ _ _ _ _ => WP_s (show ct 97 19 = some (.aload_n 0, 0, []) by decide +kernel) rfl,
  fun _ _ _ _ _ _ _ ht => WH_gR (show ct 97 20 = some (.getfield 33, 1, [10, 1, 2, 281]) by decide +kernel) ht,
  fun _ _ _ _ _ _ => WP_s (show ct 97 23 = some (.iload_n 2, 0, []) by decide +kernel) rfl,
  fun _ _ _ _ _ _ _ _ ht hi => WH_bald (show ct 97 24 = some (.baload, 1, []) by decide +kernel) ht hi,
  fun _ _ _ _ _ _ _ _ => WP_s (show ct 97 25 = some (.iadd, 0, []) by decide +kernel) rfl,
  fun _ _ _ _ _ _ => WP_s (show ct 97 26 = some (.bipush 96, 0, []) by decide +kernel) rfl,
  fun _ _ _ _ _ _ _ _ => WP_s (show ct 97 28 = some (.isub, 0, []) by decide +kernel) rfl,
  fun _ _ _ _ _ _ _ => WP_s (show ct 97 29 = some (.istore_n 1, 0, []) by decide +kernel) rfl,
  fun _ _ _ _ _ _ => WP_s (show ct 97 30 = some (.iinc 2 1, 0, []) by decide +kernel) rfl,
  fun _ _ _ _ _ _ => WP_s (show ct 97 33 = some (.goto (-26), 0, [7]) by decide +kernel) rfl,
  fun _ _ _ _ _ _ => WP_s (show ct 97 36 = some (.iload_n 1, 0, []) by decide +kernel) rfl,
  fun _ _ _ _ _ _ => WR_i (show ct 97 37 = some (.ireturn, 2, [0]) by decide +kernel)⟩
/-! 98: FewBowls$Tokens.numberValue()I; loop heads [7] -/
theorem w98_7 : ∀ (x0 : Nat) (x1 : Int32) (x2 : Int32) (st : List Value) (h : AH) (Q : Option Value → AH → Prop), WP 98 7 [.ref x0, .int x1, .int x2] (st) h Q ↔ WP 98 8 [.ref x0, .int x1, .int x2] (.int x2 :: st) h Q := fun _ _ _ _ _ _ => WP_s (show ct 98 7 = some (.iload_n 2, 0, []) by decide +kernel) rfl
set_option maxRecDepth 10000 in
theorem w98 : (∀ (x0 : Nat) (st : List Value) (h : AH) (Q : Option Value → AH → Prop), WP 98 0 [.ref x0, .retAddr 0, .retAddr 0] (st) h Q ↔ WP 98 1 [.ref x0, .retAddr 0, .retAddr 0] (.int (0) :: st) h Q) ∧
  (∀ (x0 : Nat) (y0 : Int32) (st : List Value) (h : AH) (Q : Option Value → AH → Prop), WP 98 1 [.ref x0, .retAddr 0, .retAddr 0] (.int y0 :: st) h Q ↔ WP 98 2 [.ref x0, .int y0, .retAddr 0] (st) h Q) ∧
  (∀ (x0 : Nat) (x1 : Int32) (st : List Value) (h : AH) (Q : Option Value → AH → Prop), WP 98 2 [.ref x0, .int x1, .retAddr 0] (st) h Q ↔ WP 98 3 [.ref x0, .int x1, .retAddr 0] (.ref x0 :: st) h Q) ∧
  (∀ (x0 : Nat) (x1 : Int32) (y0 : Nat) (st : List Value) (h : AH) (Q : Option Value → AH → Prop) (ht : hT h y0 = 11), WP 98 3 [.ref x0, .int x1, .retAddr 0] (.ref y0 :: st) h Q ↔ WP 98 6 [.ref x0, .int x1, .retAddr 0] (.int (hI h y0 5) :: st) h Q) ∧
  (∀ (x0 : Nat) (x1 : Int32) (y0 : Int32) (st : List Value) (h : AH) (Q : Option Value → AH → Prop), WP 98 6 [.ref x0, .int x1, .retAddr 0] (.int y0 :: st) h Q ↔ WP 98 7 [.ref x0, .int x1, .int y0] (st) h Q) ∧
  (∀ (x0 : Nat) (x1 : Int32) (x2 : Int32) (st : List Value) (h : AH) (Q : Option Value → AH → Prop), WP 98 8 [.ref x0, .int x1, .int x2] (st) h Q ↔ WP 98 9 [.ref x0, .int x1, .int x2] (.ref x0 :: st) h Q) ∧
  (∀ (x0 : Nat) (x1 : Int32) (x2 : Int32) (y0 : Nat) (st : List Value) (h : AH) (Q : Option Value → AH → Prop) (ht : hT h y0 = 11), WP 98 9 [.ref x0, .int x1, .int x2] (.ref y0 :: st) h Q ↔ WP 98 12 [.ref x0, .int x1, .int x2] (.int (hI h y0 3) :: st) h Q) ∧
  (∀ (x0 : Nat) (x1 : Int32) (x2 : Int32) (y0 : Int32) (y1 : Int32) (st : List Value) (h : AH) (Q : Option Value → AH → Prop), WP 98 12 [.ref x0, .int x1, .int x2] (.int y0 :: .int y1 :: st) h Q ↔ ((y0 ≤ y1 → WP 98 36 [.ref x0, .int x1, .int x2] (st) h Q) ∧ (¬ y0 ≤ y1 → WP 98 15 [.ref x0, .int x1, .int x2] (st) h Q))) ∧
  (∀ (x0 : Nat) (x1 : Int32) (x2 : Int32) (st : List Value) (h : AH) (Q : Option Value → AH → Prop), WP 98 15 [.ref x0, .int x1, .int x2] (st) h Q ↔ WP 98 16 [.ref x0, .int x1, .int x2] (.int x1 :: st) h Q) ∧
  (∀ (x0 : Nat) (x1 : Int32) (x2 : Int32) (st : List Value) (h : AH) (Q : Option Value → AH → Prop), WP 98 16 [.ref x0, .int x1, .int x2] (st) h Q ↔ WP 98 18 [.ref x0, .int x1, .int x2] (.int (10) :: st) h Q) ∧
  (∀ (x0 : Nat) (x1 : Int32) (x2 : Int32) (y0 : Int32) (y1 : Int32) (st : List Value) (h : AH) (Q : Option Value → AH → Prop), WP 98 18 [.ref x0, .int x1, .int x2] (.int y0 :: .int y1 :: st) h Q ↔ WP 98 19 [.ref x0, .int x1, .int x2] (.int (y1 * y0) :: st) h Q) ∧
  (∀ (x0 : Nat) (x1 : Int32) (x2 : Int32) (st : List Value) (h : AH) (Q : Option Value → AH → Prop), WP 98 19 [.ref x0, .int x1, .int x2] (st) h Q ↔ WP 98 20 [.ref x0, .int x1, .int x2] (.ref x0 :: st) h Q) ∧
  (∀ (x0 : Nat) (x1 : Int32) (x2 : Int32) (y0 : Nat) (st : List Value) (h : AH) (Q : Option Value → AH → Prop) (ht : hT h y0 = 11), WP 98 20 [.ref x0, .int x1, .int x2] (.ref y0 :: st) h Q ↔ WP 98 23 [.ref x0, .int x1, .int x2] (.ref (hR h y0 1) :: st) h Q) ∧
  (∀ (x0 : Nat) (x1 : Int32) (x2 : Int32) (st : List Value) (h : AH) (Q : Option Value → AH → Prop), WP 98 23 [.ref x0, .int x1, .int x2] (st) h Q ↔ WP 98 24 [.ref x0, .int x1, .int x2] (.int x2 :: st) h Q) ∧
  (∀ (x0 : Nat) (x1 : Int32) (x2 : Int32) (y0 : Int32) (y1 : Nat) (st : List Value) (h : AH) (Q : Option Value → AH → Prop) (ht : hT h y1 = 101 ∨ hT h y1 = 102) (hi : inb y0 (hL h y1) = true), WP 98 24 [.ref x0, .int x1, .int x2] (.int y0 :: .ref y1 :: st) h Q ↔ WP 98 25 [.ref x0, .int x1, .int x2] (.int (hI h y1 y0.toNatClampNeg) :: st) h Q) ∧
  (∀ (x0 : Nat) (x1 : Int32) (x2 : Int32) (st : List Value) (h : AH) (Q : Option Value → AH → Prop), WP 98 25 [.ref x0, .int x1, .int x2] (st) h Q ↔ WP 98 27 [.ref x0, .int x1, .int x2] (.int (48) :: st) h Q) ∧
  (∀ (x0 : Nat) (x1 : Int32) (x2 : Int32) (y0 : Int32) (y1 : Int32) (st : List Value) (h : AH) (Q : Option Value → AH → Prop), WP 98 27 [.ref x0, .int x1, .int x2] (.int y0 :: .int y1 :: st) h Q ↔ WP 98 28 [.ref x0, .int x1, .int x2] (.int (y1 - y0) :: st) h Q) ∧
  (∀ (x0 : Nat) (x1 : Int32) (x2 : Int32) (y0 : Int32) (y1 : Int32) (st : List Value) (h : AH) (Q : Option Value → AH → Prop), WP 98 28 [.ref x0, .int x1, .int x2] (.int y0 :: .int y1 :: st) h Q ↔ WP 98 29 [.ref x0, .int x1, .int x2] (.int (y1 + y0) :: st) h Q) ∧
  (∀ (x0 : Nat) (x1 : Int32) (x2 : Int32) (y0 : Int32) (st : List Value) (h : AH) (Q : Option Value → AH → Prop), WP 98 29 [.ref x0, .int x1, .int x2] (.int y0 :: st) h Q ↔ WP 98 30 [.ref x0, .int y0, .int x2] (st) h Q) ∧
  (∀ (x0 : Nat) (x1 : Int32) (x2 : Int32) (st : List Value) (h : AH) (Q : Option Value → AH → Prop), WP 98 30 [.ref x0, .int x1, .int x2] (st) h Q ↔ WP 98 33 [.ref x0, .int x1, .int (x2 + (1))] (st) h Q) ∧
  (∀ (x0 : Nat) (x1 : Int32) (x2 : Int32) (st : List Value) (h : AH) (Q : Option Value → AH → Prop), WP 98 33 [.ref x0, .int x1, .int x2] (st) h Q ↔ WP 98 7 [.ref x0, .int x1, .int x2] (st) h Q) ∧
  (∀ (x0 : Nat) (x1 : Int32) (x2 : Int32) (st : List Value) (h : AH) (Q : Option Value → AH → Prop), WP 98 36 [.ref x0, .int x1, .int x2] (st) h Q ↔ WP 98 37 [.ref x0, .int x1, .int x2] (.int x1 :: st) h Q) ∧
  (∀ (x0 : Nat) (x1 : Int32) (x2 : Int32) (y0 : Int32) (h : AH) (Q : Option Value → AH → Prop), WP 98 37 [.ref x0, .int x1, .int x2] ([.int y0]) h Q ↔ Q (some (.int y0)) h) :=
  ⟨fun _ _ _ _ => WP_s (show ct 98 0 = some (.iconst 0, 0, []) by decide +kernel) rfl,
  fun _ _ _ _ _ => WP_s (show ct 98 1 = some (.istore_n 1, 0, []) by decide +kernel) rfl,
  fun _ _ _ _ _ => WP_s (show ct 98 2 = some (.aload_n 0, 0, []) by decide +kernel) rfl,
  fun _ _ _ _ _ _ ht => WH_gI (show ct 98 3 = some (.getfield 57, 1, [10, 5, 0, 287]) by decide +kernel) (by decide) ht,
  fun _ _ _ _ _ _ => WP_s (show ct 98 6 = some (.istore_n 2, 0, []) by decide +kernel) rfl,
  fun _ _ _ _ _ _ => WP_s (show ct 98 8 = some (.aload_n 0, 0, []) by decide +kernel) rfl,
  fun _ _ _ _ _ _ _ ht => WH_gI (show ct 98 9 = some (.getfield 50, 1, [10, 3, 0, 283]) by decide +kernel) (by decide) ht,
  fun _ _ _ _ _ _ _ _ => WI_ge (show ct 98 12 = some (.if_icmp .ge 24, 0, [36]) by decide +kernel) (by decide),
  fun _ _ _ _ _ _ => WP_s (show ct 98 15 = some (.iload_n 1, 0, []) by decide +kernel) rfl,
  fun _ _ _ _ _ _ => WP_s (show ct 98 16 = some (.bipush 10, 0, []) by decide +kernel) rfl,
  fun _ _ _ _ _ _ _ _ => WP_s (show ct 98 18 = some (.imul, 0, []) by decide +kernel) rfl,
  fun _ _ _ _ _ _ => WP_s (show ct 98 19 = some (.aload_n 0, 0, []) by decide +kernel) rfl,
  fun _ _ _ _ _ _ _ ht => WH_gR (show ct 98 20 = some (.getfield 33, 1, [10, 1, 2, 281]) by decide +kernel) ht,
  fun _ _ _ _ _ _ => WP_s (show ct 98 23 = some (.iload_n 2, 0, []) by decide +kernel) rfl,
  fun _ _ _ _ _ _ _ _ ht hi => WH_bald (show ct 98 24 = some (.baload, 1, []) by decide +kernel) ht hi,
  fun _ _ _ _ _ _ => WP_s (show ct 98 25 = some (.bipush 48, 0, []) by decide +kernel) rfl,
  fun _ _ _ _ _ _ _ _ => WP_s (show ct 98 27 = some (.isub, 0, []) by decide +kernel) rfl,
  fun _ _ _ _ _ _ _ _ => WP_s (show ct 98 28 = some (.iadd, 0, []) by decide +kernel) rfl,
  fun _ _ _ _ _ _ _ => WP_s (show ct 98 29 = some (.istore_n 1, 0, []) by decide +kernel) rfl,
  fun _ _ _ _ _ _ => WP_s (show ct 98 30 = some (.iinc 2 1, 0, []) by decide +kernel) rfl,
  fun _ _ _ _ _ _ => WP_s (show ct 98 33 = some (.goto (-26), 0, [7]) by decide +kernel) rfl,
  fun _ _ _ _ _ _ => WP_s (show ct 98 36 = some (.iload_n 1, 0, []) by decide +kernel) rfl,
  fun _ _ _ _ _ _ => WR_i (show ct 98 37 = some (.ireturn, 2, [0]) by decide +kernel)⟩
/-! 99: FewBowls$Tokens.kindOf(I)I; loop heads [2] -/
theorem w99_2 : ∀ (x0 : Nat) (x1 : Int32) (x2 : Int32) (st : List Value) (h : AH) (Q : Option Value → AH → Prop), WP 99 2 [.ref x0, .int x1, .int x2] (st) h Q ↔ WP 99 3 [.ref x0, .int x1, .int x2] (.int x2 :: st) h Q := fun _ _ _ _ _ _ => WP_s (show ct 99 2 = some (.iload_n 2, 0, []) by decide +kernel) rfl
set_option maxRecDepth 10000 in
theorem w99 : (∀ (x0 : Nat) (x1 : Int32) (st : List Value) (h : AH) (Q : Option Value → AH → Prop), WP 99 0 [.ref x0, .int x1, .retAddr 0] (st) h Q ↔ WP 99 1 [.ref x0, .int x1, .retAddr 0] (.int (0) :: st) h Q) ∧
  (∀ (x0 : Nat) (x1 : Int32) (y0 : Int32) (st : List Value) (h : AH) (Q : Option Value → AH → Prop), WP 99 1 [.ref x0, .int x1, .retAddr 0] (.int y0 :: st) h Q ↔ WP 99 2 [.ref x0, .int x1, .int y0] (st) h Q) ∧
  (∀ (x0 : Nat) (x1 : Int32) (x2 : Int32) (st : List Value) (h : AH) (Q : Option Value → AH → Prop), WP 99 3 [.ref x0, .int x1, .int x2] (st) h Q ↔ WP 99 4 [.ref x0, .int x1, .int x2] (.ref x0 :: st) h Q) ∧
  (∀ (x0 : Nat) (x1 : Int32) (x2 : Int32) (y0 : Nat) (st : List Value) (h : AH) (Q : Option Value → AH → Prop) (ht : hT h y0 = 11), WP 99 4 [.ref x0, .int x1, .int x2] (.ref y0 :: st) h Q ↔ WP 99 7 [.ref x0, .int x1, .int x2] (.ref (hR h y0 0) :: st) h Q) ∧
  (∀ (x0 : Nat) (x1 : Int32) (x2 : Int32) (y0 : Nat) (st : List Value) (h : AH) (Q : Option Value → AH → Prop) (ht : hT h y0 = 100 ∨ hT h y0 = 101 ∨ hT h y0 = 102 ∨ hT h y0 = 103 ∨ hT h y0 = 110), WP 99 7 [.ref x0, .int x1, .int x2] (.ref y0 :: st) h Q ↔ WP 99 8 [.ref x0, .int x1, .int x2] (.int (nI (hL h y0)) :: st) h Q) ∧
  (∀ (x0 : Nat) (x1 : Int32) (x2 : Int32) (y0 : Int32) (y1 : Int32) (st : List Value) (h : AH) (Q : Option Value → AH → Prop), WP 99 8 [.ref x0, .int x1, .int x2] (.int y0 :: .int y1 :: st) h Q ↔ ((y0 ≤ y1 → WP 99 29 [.ref x0, .int x1, .int x2] (st) h Q) ∧ (¬ y0 ≤ y1 → WP 99 11 [.ref x0, .int x1, .int x2] (st) h Q))) ∧
  (∀ (x0 : Nat) (x1 : Int32) (x2 : Int32) (st : List Value) (h : AH) (Q : Option Value → AH → Prop), WP 99 11 [.ref x0, .int x1, .int x2] (st) h Q ↔ WP 99 12 [.ref x0, .int x1, .int x2] (.ref x0 :: st) h Q) ∧
  (∀ (x0 : Nat) (x1 : Int32) (x2 : Int32) (y0 : Nat) (st : List Value) (h : AH) (Q : Option Value → AH → Prop) (ht : hT h y0 = 11), WP 99 12 [.ref x0, .int x1, .int x2] (.ref y0 :: st) h Q ↔ WP 99 15 [.ref x0, .int x1, .int x2] (.ref (hR h y0 0) :: st) h Q) ∧
  (∀ (x0 : Nat) (x1 : Int32) (x2 : Int32) (st : List Value) (h : AH) (Q : Option Value → AH → Prop), WP 99 15 [.ref x0, .int x1, .int x2] (st) h Q ↔ WP 99 16 [.ref x0, .int x1, .int x2] (.int x2 :: st) h Q) ∧
  (∀ (x0 : Nat) (x1 : Int32) (x2 : Int32) (y0 : Int32) (y1 : Nat) (st : List Value) (h : AH) (Q : Option Value → AH → Prop) (ht : hT h y1 = 100 ∨ hT h y1 = 110) (hi : inb y0 (hL h y1) = true), WP 99 16 [.ref x0, .int x1, .int x2] (.int y0 :: .ref y1 :: st) h Q ↔ WP 99 17 [.ref x0, .int x1, .int x2] (.int (hI h y1 y0.toNatClampNeg) :: st) h Q) ∧
  (∀ (x0 : Nat) (x1 : Int32) (x2 : Int32) (st : List Value) (h : AH) (Q : Option Value → AH → Prop), WP 99 17 [.ref x0, .int x1, .int x2] (st) h Q ↔ WP 99 18 [.ref x0, .int x1, .int x2] (.int x1 :: st) h Q) ∧
  (∀ (x0 : Nat) (x1 : Int32) (x2 : Int32) (y0 : Int32) (y1 : Int32) (st : List Value) (h : AH) (Q : Option Value → AH → Prop), WP 99 18 [.ref x0, .int x1, .int x2] (.int y0 :: .int y1 :: st) h Q ↔ ((¬ y1 = y0 → WP 99 23 [.ref x0, .int x1, .int x2] (st) h Q) ∧ (y1 = y0 → WP 99 21 [.ref x0, .int x1, .int x2] (st) h Q))) ∧
  (∀ (x0 : Nat) (x1 : Int32) (x2 : Int32) (st : List Value) (h : AH) (Q : Option Value → AH → Prop), WP 99 21 [.ref x0, .int x1, .int x2] (st) h Q ↔ WP 99 22 [.ref x0, .int x1, .int x2] (.int x2 :: st) h Q) ∧
  (∀ (x0 : Nat) (x1 : Int32) (x2 : Int32) (y0 : Int32) (h : AH) (Q : Option Value → AH → Prop), WP 99 22 [.ref x0, .int x1, .int x2] ([.int y0]) h Q ↔ Q (some (.int y0)) h) ∧
  (∀ (x0 : Nat) (x1 : Int32) (x2 : Int32) (st : List Value) (h : AH) (Q : Option Value → AH → Prop), WP 99 23 [.ref x0, .int x1, .int x2] (st) h Q ↔ WP 99 26 [.ref x0, .int x1, .int (x2 + (1))] (st) h Q) ∧
  (∀ (x0 : Nat) (x1 : Int32) (x2 : Int32) (st : List Value) (h : AH) (Q : Option Value → AH → Prop), WP 99 26 [.ref x0, .int x1, .int x2] (st) h Q ↔ WP 99 2 [.ref x0, .int x1, .int x2] (st) h Q) ∧
  (∀ (x0 : Nat) (x1 : Int32) (x2 : Int32) (st : List Value) (h : AH) (Q : Option Value → AH → Prop), WP 99 29 [.ref x0, .int x1, .int x2] (st) h Q ↔ WP 99 31 [.ref x0, .int x1, .int x2] (.int (7) :: st) h Q) ∧
  (∀ (x0 : Nat) (x1 : Int32) (x2 : Int32) (y0 : Int32) (h : AH) (Q : Option Value → AH → Prop), WP 99 31 [.ref x0, .int x1, .int x2] ([.int y0]) h Q ↔ Q (some (.int y0)) h) :=
  ⟨fun _ _ _ _ _ => WP_s (show ct 99 0 = some (.iconst 0, 0, []) by decide +kernel) rfl,
  fun _ _ _ _ _ _ => WP_s (show ct 99 1 = some (.istore_n 2, 0, []) by decide +kernel) rfl,
  fun _ _ _ _ _ _ => WP_s (show ct 99 3 = some (.aload_n 0, 0, []) by decide +kernel) rfl,
  fun _ _ _ _ _ _ _ ht => WH_gR (show ct 99 4 = some (.getfield 29, 1, [10, 0, 2, 280]) by decide +kernel) ht,
  fun _ _ _ _ _ _ _ ht => WH_alen (show ct 99 7 = some (.arraylength, 1, []) by decide +kernel) ht,
  fun _ _ _ _ _ _ _ _ => WI_ge (show ct 99 8 = some (.if_icmp .ge 21, 0, [29]) by decide +kernel) (by decide),
  fun _ _ _ _ _ _ => WP_s (show ct 99 11 = some (.aload_n 0, 0, []) by decide +kernel) rfl,
  fun _ _ _ _ _ _ _ ht => WH_gR (show ct 99 12 = some (.getfield 29, 1, [10, 0, 2, 280]) by decide +kernel) ht,
  fun _ _ _ _ _ _ => WP_s (show ct 99 15 = some (.iload_n 2, 0, []) by decide +kernel) rfl,
  fun _ _ _ _ _ _ _ _ ht hi => WH_iald (show ct 99 16 = some (.iaload, 1, []) by decide +kernel) ht hi,
  fun _ _ _ _ _ _ => WP_s (show ct 99 17 = some (.iload_n 1, 0, []) by decide +kernel) rfl,
  fun _ _ _ _ _ _ _ _ => WI_ne (show ct 99 18 = some (.if_icmp .ne 5, 0, [23]) by decide +kernel) (by decide),
  fun _ _ _ _ _ _ => WP_s (show ct 99 21 = some (.iload_n 2, 0, []) by decide +kernel) rfl,
  fun _ _ _ _ _ _ => WR_i (show ct 99 22 = some (.ireturn, 2, [0]) by decide +kernel),
  fun _ _ _ _ _ _ => WP_s (show ct 99 23 = some (.iinc 2 1, 0, []) by decide +kernel) rfl,
  fun _ _ _ _ _ _ => WP_s (show ct 99 26 = some (.goto (-24), 0, [2]) by decide +kernel) rfl,
  fun _ _ _ _ _ _ => WP_s (show ct 99 29 = some (.bipush 7, 0, []) by decide +kernel) rfl,
  fun _ _ _ _ _ _ => WR_i (show ct 99 31 = some (.ireturn, 2, [0]) by decide +kernel)⟩
/-! 101: FewBowls$Tokens.isBlank(I)Z; loop heads [] -/
set_option maxRecDepth 10000 in
theorem w101 : (∀ (x0 : Int32) (st : List Value) (h : AH) (Q : Option Value → AH → Prop), WP 101 0 [.int x0] (st) h Q ↔ WP 101 1 [.int x0] (.int x0 :: st) h Q) ∧
  (∀ (x0 : Int32) (st : List Value) (h : AH) (Q : Option Value → AH → Prop), WP 101 1 [.int x0] (st) h Q ↔ WP 101 3 [.int x0] (.int (32) :: st) h Q) ∧
  (∀ (x0 : Int32) (y0 : Int32) (y1 : Int32) (st : List Value) (h : AH) (Q : Option Value → AH → Prop), WP 101 3 [.int x0] (.int y0 :: .int y1 :: st) h Q ↔ ((y1 = y0 → WP 101 12 [.int x0] (st) h Q) ∧ (¬ y1 = y0 → WP 101 6 [.int x0] (st) h Q))) ∧
  (∀ (x0 : Int32) (st : List Value) (h : AH) (Q : Option Value → AH → Prop), WP 101 6 [.int x0] (st) h Q ↔ WP 101 7 [.int x0] (.int x0 :: st) h Q) ∧
  (∀ (x0 : Int32) (st : List Value) (h : AH) (Q : Option Value → AH → Prop), WP 101 7 [.int x0] (st) h Q ↔ WP 101 9 [.int x0] (.int (10) :: st) h Q) ∧
  (∀ (x0 : Int32) (y0 : Int32) (y1 : Int32) (st : List Value) (h : AH) (Q : Option Value → AH → Prop), WP 101 9 [.int x0] (.int y0 :: .int y1 :: st) h Q ↔ ((¬ y1 = y0 → WP 101 16 [.int x0] (st) h Q) ∧ (y1 = y0 → WP 101 12 [.int x0] (st) h Q))) ∧
  (∀ (x0 : Int32) (st : List Value) (h : AH) (Q : Option Value → AH → Prop), WP 101 12 [.int x0] (st) h Q ↔ WP 101 13 [.int x0] (.int (1) :: st) h Q) ∧
  (∀ (x0 : Int32) (st : List Value) (h : AH) (Q : Option Value → AH → Prop), WP 101 13 [.int x0] (st) h Q ↔ WP 101 17 [.int x0] (st) h Q) ∧
  (∀ (x0 : Int32) (st : List Value) (h : AH) (Q : Option Value → AH → Prop), WP 101 16 [.int x0] (st) h Q ↔ WP 101 17 [.int x0] (.int (0) :: st) h Q) ∧
  (∀ (x0 : Int32) (y0 : Int32) (h : AH) (Q : Option Value → AH → Prop) (hz : y0 = 0 ∨ y0 = 1), WP 101 17 [.int x0] ([.int y0]) h Q ↔ Q (some (.int y0)) h) :=
  ⟨fun _ _ _ _ => WP_s (show ct 101 0 = some (.iload_n 0, 0, []) by decide +kernel) rfl,
  fun _ _ _ _ => WP_s (show ct 101 1 = some (.bipush 32, 0, []) by decide +kernel) rfl,
  fun _ _ _ _ _ _ => WI_eq (show ct 101 3 = some (.if_icmp .eq 9, 0, [12]) by decide +kernel) (by decide),
  fun _ _ _ _ => WP_s (show ct 101 6 = some (.iload_n 0, 0, []) by decide +kernel) rfl,
  fun _ _ _ _ => WP_s (show ct 101 7 = some (.bipush 10, 0, []) by decide +kernel) rfl,
  fun _ _ _ _ _ _ => WI_ne (show ct 101 9 = some (.if_icmp .ne 7, 0, [16]) by decide +kernel) (by decide),
  fun _ _ _ _ => WP_s (show ct 101 12 = some (.iconst 1, 0, []) by decide +kernel) rfl,
  fun _ _ _ _ => WP_s (show ct 101 13 = some (.goto 4, 0, [17]) by decide +kernel) rfl,
  fun _ _ _ _ => WP_s (show ct 101 16 = some (.iconst 0, 0, []) by decide +kernel) rfl,
  fun _ _ _ _ hz => WR_z (show ct 101 17 = some (.ireturn, 2, [1]) by decide +kernel) hz⟩
/-! 102: FewBowls$Tokens.isLetter(I)Z; loop heads [] -/
set_option maxRecDepth 10000 in
theorem w102 : (∀ (x0 : Int32) (st : List Value) (h : AH) (Q : Option Value → AH → Prop), WP 102 0 [.int x0] (st) h Q ↔ WP 102 1 [.int x0] (.int x0 :: st) h Q) ∧
  (∀ (x0 : Int32) (st : List Value) (h : AH) (Q : Option Value → AH → Prop), WP 102 1 [.int x0] (st) h Q ↔ WP 102 3 [.int x0] (.int (97) :: st) h Q) ∧
  (∀ (x0 : Int32) (y0 : Int32) (y1 : Int32) (st : List Value) (h : AH) (Q : Option Value → AH → Prop), WP 102 3 [.int x0] (.int y0 :: .int y1 :: st) h Q ↔ ((y1 < y0 → WP 102 16 [.int x0] (st) h Q) ∧ (¬ y1 < y0 → WP 102 6 [.int x0] (st) h Q))) ∧
  (∀ (x0 : Int32) (st : List Value) (h : AH) (Q : Option Value → AH → Prop), WP 102 6 [.int x0] (st) h Q ↔ WP 102 7 [.int x0] (.int x0 :: st) h Q) ∧
  (∀ (x0 : Int32) (st : List Value) (h : AH) (Q : Option Value → AH → Prop), WP 102 7 [.int x0] (st) h Q ↔ WP 102 9 [.int x0] (.int (122) :: st) h Q) ∧
  (∀ (x0 : Int32) (y0 : Int32) (y1 : Int32) (st : List Value) (h : AH) (Q : Option Value → AH → Prop), WP 102 9 [.int x0] (.int y0 :: .int y1 :: st) h Q ↔ ((y0 < y1 → WP 102 16 [.int x0] (st) h Q) ∧ (¬ y0 < y1 → WP 102 12 [.int x0] (st) h Q))) ∧
  (∀ (x0 : Int32) (st : List Value) (h : AH) (Q : Option Value → AH → Prop), WP 102 12 [.int x0] (st) h Q ↔ WP 102 13 [.int x0] (.int (1) :: st) h Q) ∧
  (∀ (x0 : Int32) (st : List Value) (h : AH) (Q : Option Value → AH → Prop), WP 102 13 [.int x0] (st) h Q ↔ WP 102 17 [.int x0] (st) h Q) ∧
  (∀ (x0 : Int32) (st : List Value) (h : AH) (Q : Option Value → AH → Prop), WP 102 16 [.int x0] (st) h Q ↔ WP 102 17 [.int x0] (.int (0) :: st) h Q) ∧
  (∀ (x0 : Int32) (y0 : Int32) (h : AH) (Q : Option Value → AH → Prop) (hz : y0 = 0 ∨ y0 = 1), WP 102 17 [.int x0] ([.int y0]) h Q ↔ Q (some (.int y0)) h) :=
  ⟨fun _ _ _ _ => WP_s (show ct 102 0 = some (.iload_n 0, 0, []) by decide +kernel) rfl,
  fun _ _ _ _ => WP_s (show ct 102 1 = some (.bipush 97, 0, []) by decide +kernel) rfl,
  fun _ _ _ _ _ _ => WI_lt (show ct 102 3 = some (.if_icmp .lt 13, 0, [16]) by decide +kernel) (by decide),
  fun _ _ _ _ => WP_s (show ct 102 6 = some (.iload_n 0, 0, []) by decide +kernel) rfl,
  fun _ _ _ _ => WP_s (show ct 102 7 = some (.bipush 122, 0, []) by decide +kernel) rfl,
  fun _ _ _ _ _ _ => WI_gt (show ct 102 9 = some (.if_icmp .gt 7, 0, [16]) by decide +kernel) (by decide),
  fun _ _ _ _ => WP_s (show ct 102 12 = some (.iconst 1, 0, []) by decide +kernel) rfl,
  fun _ _ _ _ => WP_s (show ct 102 13 = some (.goto 4, 0, [17]) by decide +kernel) rfl,
  fun _ _ _ _ => WP_s (show ct 102 16 = some (.iconst 0, 0, []) by decide +kernel) rfl,
  fun _ _ _ _ hz => WR_z (show ct 102 17 = some (.ireturn, 2, [1]) by decide +kernel) hz⟩
/-! 103: FewBowls$Tokens.isDigit(I)Z; loop heads [] -/
set_option maxRecDepth 10000 in
theorem w103 : (∀ (x0 : Int32) (st : List Value) (h : AH) (Q : Option Value → AH → Prop), WP 103 0 [.int x0] (st) h Q ↔ WP 103 1 [.int x0] (.int x0 :: st) h Q) ∧
  (∀ (x0 : Int32) (st : List Value) (h : AH) (Q : Option Value → AH → Prop), WP 103 1 [.int x0] (st) h Q ↔ WP 103 3 [.int x0] (.int (48) :: st) h Q) ∧
  (∀ (x0 : Int32) (y0 : Int32) (y1 : Int32) (st : List Value) (h : AH) (Q : Option Value → AH → Prop), WP 103 3 [.int x0] (.int y0 :: .int y1 :: st) h Q ↔ ((y1 < y0 → WP 103 16 [.int x0] (st) h Q) ∧ (¬ y1 < y0 → WP 103 6 [.int x0] (st) h Q))) ∧
  (∀ (x0 : Int32) (st : List Value) (h : AH) (Q : Option Value → AH → Prop), WP 103 6 [.int x0] (st) h Q ↔ WP 103 7 [.int x0] (.int x0 :: st) h Q) ∧
  (∀ (x0 : Int32) (st : List Value) (h : AH) (Q : Option Value → AH → Prop), WP 103 7 [.int x0] (st) h Q ↔ WP 103 9 [.int x0] (.int (57) :: st) h Q) ∧
  (∀ (x0 : Int32) (y0 : Int32) (y1 : Int32) (st : List Value) (h : AH) (Q : Option Value → AH → Prop), WP 103 9 [.int x0] (.int y0 :: .int y1 :: st) h Q ↔ ((y0 < y1 → WP 103 16 [.int x0] (st) h Q) ∧ (¬ y0 < y1 → WP 103 12 [.int x0] (st) h Q))) ∧
  (∀ (x0 : Int32) (st : List Value) (h : AH) (Q : Option Value → AH → Prop), WP 103 12 [.int x0] (st) h Q ↔ WP 103 13 [.int x0] (.int (1) :: st) h Q) ∧
  (∀ (x0 : Int32) (st : List Value) (h : AH) (Q : Option Value → AH → Prop), WP 103 13 [.int x0] (st) h Q ↔ WP 103 17 [.int x0] (st) h Q) ∧
  (∀ (x0 : Int32) (st : List Value) (h : AH) (Q : Option Value → AH → Prop), WP 103 16 [.int x0] (st) h Q ↔ WP 103 17 [.int x0] (.int (0) :: st) h Q) ∧
  (∀ (x0 : Int32) (y0 : Int32) (h : AH) (Q : Option Value → AH → Prop) (hz : y0 = 0 ∨ y0 = 1), WP 103 17 [.int x0] ([.int y0]) h Q ↔ Q (some (.int y0)) h) :=
  ⟨fun _ _ _ _ => WP_s (show ct 103 0 = some (.iload_n 0, 0, []) by decide +kernel) rfl,
  fun _ _ _ _ => WP_s (show ct 103 1 = some (.bipush 48, 0, []) by decide +kernel) rfl,
  fun _ _ _ _ _ _ => WI_lt (show ct 103 3 = some (.if_icmp .lt 13, 0, [16]) by decide +kernel) (by decide),
  fun _ _ _ _ => WP_s (show ct 103 6 = some (.iload_n 0, 0, []) by decide +kernel) rfl,
  fun _ _ _ _ => WP_s (show ct 103 7 = some (.bipush 57, 0, []) by decide +kernel) rfl,
  fun _ _ _ _ _ _ => WI_gt (show ct 103 9 = some (.if_icmp .gt 7, 0, [16]) by decide +kernel) (by decide),
  fun _ _ _ _ => WP_s (show ct 103 12 = some (.iconst 1, 0, []) by decide +kernel) rfl,
  fun _ _ _ _ => WP_s (show ct 103 13 = some (.goto 4, 0, [17]) by decide +kernel) rfl,
  fun _ _ _ _ => WP_s (show ct 103 16 = some (.iconst 0, 0, []) by decide +kernel) rfl,
  fun _ _ _ _ hz => WR_z (show ct 103 17 = some (.ireturn, 2, [1]) by decide +kernel) hz⟩

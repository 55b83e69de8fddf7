/-! 143: FewBowlsModel.<init>()V; loop heads [] -/
set_option maxRecDepth 10000 in
theorem w143_a : (∀ (x0 : Nat) (st : List Value) (h : AH) (Q : Option Value → AH → Prop), WP 143 0 [.ref x0] (st) h Q ↔ WP 143 1 [.ref x0] (.ref x0 :: st) h Q) ∧
  (∀ (x0 : Nat) (y0 : Nat) (h : AH) (Q : Option Value → AH → Prop) (h0 : y0 ≠ 0), WP 143 1 [.ref x0] ([.ref y0]) h Q ↔ WP 143 4 [.ref x0] ([]) h Q) ∧
  (∀ (x0 : Nat) (st : List Value) (h : AH) (Q : Option Value → AH → Prop), WP 143 4 [.ref x0] (st) h Q ↔ WP 143 5 [.ref x0] (.ref x0 :: st) h Q) ∧
  (∀ (x0 : Nat) (st : List Value) (h : AH) (Q : Option Value → AH → Prop), WP 143 5 [.ref x0] (st) h Q ↔ WP 143 8 [.ref x0] (.int (540) :: st) h Q) ∧
  (∀ (x0 : Nat) (y0 : Int32) (st : List Value) (h : AH) (Q : Option Value → AH → Prop) (h0 : 0 ≤ y0) (h1 : y0.toNatClampNeg ≤ 1048576), WP 143 8 [.ref x0] (.int y0 :: st) h Q ↔ WP 143 10 [.ref x0] (.ref (hN h) :: st) (nw h 101 y0.toNatClampNeg y0.toNatClampNeg) Q) ∧
  (∀ (x0 : Nat) (y0 : Nat) (y1 : Nat) (st : List Value) (h : AH) (Q : Option Value → AH → Prop) (ht : hT h y1 = 13), WP 143 10 [.ref x0] (.ref y0 :: .ref y1 :: st) h Q ↔ WP 143 13 [.ref x0] (st) (sR h y1 1 y0) Q) ∧
  (∀ (x0 : Nat) (st : List Value) (h : AH) (Q : Option Value → AH → Prop), WP 143 13 [.ref x0] (st) h Q ↔ WP 143 14 [.ref x0] (.ref x0 :: st) h Q) ∧
  (∀ (x0 : Nat) (st : List Value) (h : AH) (Q : Option Value → AH → Prop), WP 143 14 [.ref x0] (st) h Q ↔ WP 143 16 [.ref x0] (.int (28) :: st) h Q) ∧
  (∀ (x0 : Nat) (y0 : Int32) (st : List Value) (h : AH) (Q : Option Value → AH → Prop) (h0 : 0 ≤ y0) (h1 : y0.toNatClampNeg ≤ 1048576), WP 143 16 [.ref x0] (.int y0 :: st) h Q ↔ WP 143 18 [.ref x0] (.ref (hN h) :: st) (nw h 103 y0.toNatClampNeg y0.toNatClampNeg) Q) ∧
  (∀ (x0 : Nat) (y0 : Nat) (y1 : Nat) (st : List Value) (h : AH) (Q : Option Value → AH → Prop) (ht : hT h y1 = 13), WP 143 18 [.ref x0] (.ref y0 :: .ref y1 :: st) h Q ↔ WP 143 21 [.ref x0] (st) (sR h y1 5 y0) Q) ∧
  (∀ (x0 : Nat) (st : List Value) (h : AH) (Q : Option Value → AH → Prop), WP 143 21 [.ref x0] (st) h Q ↔ WP 143 22 [.ref x0] (.ref x0 :: st) h Q) ∧
  (∀ (x0 : Nat) (st : List Value) (h : AH) (Q : Option Value → AH → Prop), WP 143 22 [.ref x0] (st) h Q ↔ WP 143 24 [.ref x0] (.int (28) :: st) h Q) ∧
  (∀ (x0 : Nat) (y0 : Int32) (st : List Value) (h : AH) (Q : Option Value → AH → Prop) (h0 : 0 ≤ y0) (h1 : y0.toNatClampNeg ≤ 1048576), WP 143 24 [.ref x0] (.int y0 :: st) h Q ↔ WP 143 26 [.ref x0] (.ref (hN h) :: st) (nw h 100 y0.toNatClampNeg y0.toNatClampNeg) Q) ∧
  (∀ (x0 : Nat) (y0 : Nat) (y1 : Nat) (st : List Value) (h : AH) (Q : Option Value → AH → Prop) (ht : hT h y1 = 13), WP 143 26 [.ref x0] (.ref y0 :: .ref y1 :: st) h Q ↔ WP 143 29 [.ref x0] (st) (sR h y1 6 y0) Q) ∧
  (∀ (x0 : Nat) (st : List Value) (h : AH) (Q : Option Value → AH → Prop), WP 143 29 [.ref x0] (st) h Q ↔ WP 143 30 [.ref x0] (.ref x0 :: st) h Q) ∧
  (∀ (x0 : Nat) (st : List Value) (h : AH) (Q : Option Value → AH → Prop), WP 143 30 [.ref x0] (st) h Q ↔ WP 143 32 [.ref x0] (.int (28) :: st) h Q) ∧
  (∀ (x0 : Nat) (y0 : Int32) (st : List Value) (h : AH) (Q : Option Value → AH → Prop) (h0 : 0 ≤ y0) (h1 : y0.toNatClampNeg ≤ 1048576), WP 143 32 [.ref x0] (.int y0 :: st) h Q ↔ WP 143 34 [.ref x0] (.ref (hN h) :: st) (nw h 100 y0.toNatClampNeg y0.toNatClampNeg) Q) ∧
  (∀ (x0 : Nat) (y0 : Nat) (y1 : Nat) (st : List Value) (h : AH) (Q : Option Value → AH → Prop) (ht : hT h y1 = 13), WP 143 34 [.ref x0] (.ref y0 :: .ref y1 :: st) h Q ↔ WP 143 37 [.ref x0] (st) (sR h y1 7 y0) Q) ∧
  (∀ (x0 : Nat) (st : List Value) (h : AH) (Q : Option Value → AH → Prop), WP 143 37 [.ref x0] (st) h Q ↔ WP 143 38 [.ref x0] (.ref x0 :: st) h Q) ∧
  (∀ (x0 : Nat) (st : List Value) (h : AH) (Q : Option Value → AH → Prop), WP 143 38 [.ref x0] (st) h Q ↔ WP 143 39 [.ref x0] (.int (2) :: st) h Q) ∧
  (∀ (x0 : Nat) (y0 : Int32) (st : List Value) (h : AH) (Q : Option Value → AH → Prop) (h0 : 0 ≤ y0) (h1 : y0.toNatClampNeg ≤ 1048576), WP 143 39 [.ref x0] (.int y0 :: st) h Q ↔ WP 143 41 [.ref x0] (.ref (hN h) :: st) (nw h 100 y0.toNatClampNeg y0.toNatClampNeg) Q) ∧
  (∀ (x0 : Nat) (y0 : Nat) (y1 : Nat) (st : List Value) (h : AH) (Q : Option Value → AH → Prop) (ht : hT h y1 = 13), WP 143 41 [.ref x0] (.ref y0 :: .ref y1 :: st) h Q ↔ WP 143 44 [.ref x0] (st) (sR h y1 8 y0) Q) ∧
  (∀ (x0 : Nat) (st : List Value) (h : AH) (Q : Option Value → AH → Prop), WP 143 44 [.ref x0] (st) h Q ↔ WP 143 45 [.ref x0] (.ref x0 :: st) h Q) ∧
  (∀ (x0 : Nat) (st : List Value) (h : AH) (Q : Option Value → AH → Prop), WP 143 45 [.ref x0] (st) h Q ↔ WP 143 46 [.ref x0] (.int (2) :: st) h Q) ∧
  (∀ (x0 : Nat) (y0 : Int32) (st : List Value) (h : AH) (Q : Option Value → AH → Prop) (h0 : 0 ≤ y0) (h1 : y0.toNatClampNeg ≤ 1048576), WP 143 46 [.ref x0] (.int y0 :: st) h Q ↔ WP 143 48 [.ref x0] (.ref (hN h) :: st) (nw h 100 y0.toNatClampNeg y0.toNatClampNeg) Q) ∧
  (∀ (x0 : Nat) (y0 : Nat) (y1 : Nat) (st : List Value) (h : AH) (Q : Option Value → AH → Prop) (ht : hT h y1 = 13), WP 143 48 [.ref x0] (.ref y0 :: .ref y1 :: st) h Q ↔ WP 143 51 [.ref x0] (st) (sR h y1 9 y0) Q) ∧
  (∀ (x0 : Nat) (st : List Value) (h : AH) (Q : Option Value → AH → Prop), WP 143 51 [.ref x0] (st) h Q ↔ WP 143 52 [.ref x0] (.ref x0 :: st) h Q) ∧
  (∀ (x0 : Nat) (st : List Value) (h : AH) (Q : Option Value → AH → Prop), WP 143 52 [.ref x0] (st) h Q ↔ WP 143 54 [.ref x0] (.int (28) :: st) h Q) ∧
  (∀ (x0 : Nat) (y0 : Int32) (st : List Value) (h : AH) (Q : Option Value → AH → Prop) (h0 : 0 ≤ y0) (h1 : y0.toNatClampNeg ≤ 1048576), WP 143 54 [.ref x0] (.int y0 :: st) h Q ↔ WP 143 56 [.ref x0] (.ref (hN h) :: st) (nw h 102 y0.toNatClampNeg y0.toNatClampNeg) Q) ∧
  (∀ (x0 : Nat) (y0 : Nat) (y1 : Nat) (st : List Value) (h : AH) (Q : Option Value → AH → Prop) (ht : hT h y1 = 13), WP 143 56 [.ref x0] (.ref y0 :: .ref y1 :: st) h Q ↔ WP 143 59 [.ref x0] (st) (sR h y1 10 y0) Q) ∧
  (∀ (x0 : Nat) (st : List Value) (h : AH) (Q : Option Value → AH → Prop), WP 143 59 [.ref x0] (st) h Q ↔ WP 143 60 [.ref x0] (.ref x0 :: st) h Q) ∧
  (∀ (x0 : Nat) (st : List Value) (h : AH) (Q : Option Value → AH → Prop), WP 143 60 [.ref x0] (st) h Q ↔ WP 143 62 [.ref x0] (.int (14) :: st) h Q) ∧
  (∀ (x0 : Nat) (y0 : Int32) (st : List Value) (h : AH) (Q : Option Value → AH → Prop) (h0 : 0 ≤ y0) (h1 : y0.toNatClampNeg ≤ 1048576), WP 143 62 [.ref x0] (.int y0 :: st) h Q ↔ WP 143 64 [.ref x0] (.ref (hN h) :: st) (nw h 100 y0.toNatClampNeg y0.toNatClampNeg) Q) ∧
  (∀ (x0 : Nat) (y0 : Nat) (y1 : Nat) (st : List Value) (h : AH) (Q : Option Value → AH → Prop) (ht : hT h y1 = 13), WP 143 64 [.ref x0] (.ref y0 :: .ref y1 :: st) h Q ↔ WP 143 67 [.ref x0] (st) (sR h y1 18 y0) Q) ∧
  (∀ (x0 : Nat) (st : List Value) (h : AH) (Q : Option Value → AH → Prop), WP 143 67 [.ref x0] (st) h Q ↔ WP 143 68 [.ref x0] (.ref x0 :: st) h Q) ∧
  (∀ (x0 : Nat) (st : List Value) (h : AH) (Q : Option Value → AH → Prop), WP 143 68 [.ref x0] (st) h Q ↔ WP 143 70 [.ref x0] (.int (6) :: st) h Q) ∧
  (∀ (x0 : Nat) (y0 : Int32) (st : List Value) (h : AH) (Q : Option Value → AH → Prop) (h0 : 0 ≤ y0) (h1 : y0.toNatClampNeg ≤ 1048576), WP 143 70 [.ref x0] (.int y0 :: st) h Q ↔ WP 143 72 [.ref x0] (.ref (hN h) :: st) (nw h 100 y0.toNatClampNeg y0.toNatClampNeg) Q) ∧
  (∀ (x0 : Nat) (y0 : Nat) (y1 : Nat) (st : List Value) (h : AH) (Q : Option Value → AH → Prop) (ht : hT h y1 = 13), WP 143 72 [.ref x0] (.ref y0 :: .ref y1 :: st) h Q ↔ WP 143 75 [.ref x0] (st) (sR h y1 19 y0) Q) ∧
  (∀ (x0 : Nat) (st : List Value) (h : AH) (Q : Option Value → AH → Prop), WP 143 75 [.ref x0] (st) h Q ↔ WP 143 76 [.ref x0] (.ref x0 :: st) h Q) ∧
  (∀ (x0 : Nat) (st : List Value) (h : AH) (Q : Option Value → AH → Prop), WP 143 76 [.ref x0] (st) h Q ↔ WP 143 78 [.ref x0] (.int (14) :: st) h Q) :=
  ⟨fun _ _ _ _ => WP_s (show ct 143 0 = some (.aload_n 0, 0, []) by decide +kernel) rfl,
  fun _ _ _ _ h0 => WH_obj (show ct 143 1 = some (.invokespecial 1, 1, [1269, 124, 125]) by decide +kernel) h0 (Nat.le_of_ble_eq_true rfl),
  fun _ _ _ _ => WP_s (show ct 143 4 = some (.aload_n 0, 0, []) by decide +kernel) rfl,
  fun _ _ _ _ => WP_s (show ct 143 5 = some (.sipush 540, 0, []) by decide +kernel) rfl,
  fun _ _ _ _ _ h0 h1 => WH_newa (show ct 143 8 = some (.newarray .byte, 1, [101, 208]) by decide +kernel) (by decide) h0 h1,
  fun _ _ _ _ _ _ ht => WH_pR (show ct 143 10 = some (.putfield 7, 1, [12, 1, 2, 1, 1274]) by decide +kernel) ht,
  fun _ _ _ _ => WP_s (show ct 143 13 = some (.aload_n 0, 0, []) by decide +kernel) rfl,
  fun _ _ _ _ => WP_s (show ct 143 14 = some (.bipush 28, 0, []) by decide +kernel) rfl,
  fun _ _ _ _ _ h0 h1 => WH_newa (show ct 143 16 = some (.newarray .long, 1, [103, 344]) by decide +kernel) (by decide) h0 h1,
  fun _ _ _ _ _ _ ht => WH_pR (show ct 143 18 = some (.putfield 13, 1, [12, 5, 2, 1, 1278]) by decide +kernel) ht,
  fun _ _ _ _ => WP_s (show ct 143 21 = some (.aload_n 0, 0, []) by decide +kernel) rfl,
  fun _ _ _ _ => WP_s (show ct 143 22 = some (.bipush 28, 0, []) by decide +kernel) rfl,
  fun _ _ _ _ _ h0 h1 => WH_newa (show ct 143 24 = some (.newarray .int, 1, [100, 209]) by decide +kernel) (by decide) h0 h1,
  fun _ _ _ _ _ _ ht => WH_pR (show ct 143 26 = some (.putfield 17, 1, [12, 6, 2, 1, 1279]) by decide +kernel) ht,
  fun _ _ _ _ => WP_s (show ct 143 29 = some (.aload_n 0, 0, []) by decide +kernel) rfl,
  fun _ _ _ _ => WP_s (show ct 143 30 = some (.bipush 28, 0, []) by decide +kernel) rfl,
  fun _ _ _ _ _ h0 h1 => WH_newa (show ct 143 32 = some (.newarray .int, 1, [100, 209]) by decide +kernel) (by decide) h0 h1,
  fun _ _ _ _ _ _ ht => WH_pR (show ct 143 34 = some (.putfield 21, 1, [12, 7, 2, 1, 1280]) by decide +kernel) ht,
  fun _ _ _ _ => WP_s (show ct 143 37 = some (.aload_n 0, 0, []) by decide +kernel) rfl,
  fun _ _ _ _ => WP_s (show ct 143 38 = some (.iconst 2, 0, []) by decide +kernel) rfl,
  fun _ _ _ _ _ h0 h1 => WH_newa (show ct 143 39 = some (.newarray .int, 1, [100, 209]) by decide +kernel) (by decide) h0 h1,
  fun _ _ _ _ _ _ ht => WH_pR (show ct 143 41 = some (.putfield 24, 1, [12, 8, 2, 1, 1281]) by decide +kernel) ht,
  fun _ _ _ _ => WP_s (show ct 143 44 = some (.aload_n 0, 0, []) by decide +kernel) rfl,
  fun _ _ _ _ => WP_s (show ct 143 45 = some (.iconst 2, 0, []) by decide +kernel) rfl,
  fun _ _ _ _ _ h0 h1 => WH_newa (show ct 143 46 = some (.newarray .int, 1, [100, 209]) by decide +kernel) (by decide) h0 h1,
  fun _ _ _ _ _ _ ht => WH_pR (show ct 143 48 = some (.putfield 27, 1, [12, 9, 2, 1, 1282]) by decide +kernel) ht,
  fun _ _ _ _ => WP_s (show ct 143 51 = some (.aload_n 0, 0, []) by decide +kernel) rfl,
  fun _ _ _ _ => WP_s (show ct 143 52 = some (.bipush 28, 0, []) by decide +kernel) rfl,
  fun _ _ _ _ _ h0 h1 => WH_newa (show ct 143 54 = some (.newarray .boolean, 1, [102, 1445]) by decide +kernel) (by decide) h0 h1,
  fun _ _ _ _ _ _ ht => WH_pR (show ct 143 56 = some (.putfield 30, 1, [12, 10, 2, 1, 1283]) by decide +kernel) ht,
  fun _ _ _ _ => WP_s (show ct 143 59 = some (.aload_n 0, 0, []) by decide +kernel) rfl,
  fun _ _ _ _ => WP_s (show ct 143 60 = some (.bipush 14, 0, []) by decide +kernel) rfl,
  fun _ _ _ _ _ h0 h1 => WH_newa (show ct 143 62 = some (.newarray .int, 1, [100, 209]) by decide +kernel) (by decide) h0 h1,
  fun _ _ _ _ _ _ ht => WH_pR (show ct 143 64 = some (.putfield 34, 1, [12, 18, 2, 1, 1291]) by decide +kernel) ht,
  fun _ _ _ _ => WP_s (show ct 143 67 = some (.aload_n 0, 0, []) by decide +kernel) rfl,
  fun _ _ _ _ => WP_s (show ct 143 68 = some (.bipush 6, 0, []) by decide +kernel) rfl,
  fun _ _ _ _ _ h0 h1 => WH_newa (show ct 143 70 = some (.newarray .int, 1, [100, 209]) by decide +kernel) (by decide) h0 h1,
  fun _ _ _ _ _ _ ht => WH_pR (show ct 143 72 = some (.putfield 37, 1, [12, 19, 2, 1, 1292]) by decide +kernel) ht,
  fun _ _ _ _ => WP_s (show ct 143 75 = some (.aload_n 0, 0, []) by decide +kernel) rfl,
  fun _ _ _ _ => WP_s (show ct 143 76 = some (.bipush 14, 0, []) by decide +kernel) rfl⟩
set_option maxRecDepth 10000 in
theorem w143_b : (∀ (x0 : Nat) (y0 : Int32) (st : List Value) (h : AH) (Q : Option Value → AH → Prop) (h0 : 0 ≤ y0) (h1 : y0.toNatClampNeg ≤ 1048576), WP 143 78 [.ref x0] (.int y0 :: st) h Q ↔ WP 143 80 [.ref x0] (.ref (hN h) :: st) (nw h 100 y0.toNatClampNeg y0.toNatClampNeg) Q) ∧
  (∀ (x0 : Nat) (y0 : Nat) (y1 : Nat) (st : List Value) (h : AH) (Q : Option Value → AH → Prop) (ht : hT h y1 = 13), WP 143 80 [.ref x0] (.ref y0 :: .ref y1 :: st) h Q ↔ WP 143 83 [.ref x0] (st) (sR h y1 20 y0) Q) ∧
  (∀ (x0 : Nat) (st : List Value) (h : AH) (Q : Option Value → AH → Prop), WP 143 83 [.ref x0] (st) h Q ↔ WP 143 84 [.ref x0] (.ref x0 :: st) h Q) ∧
  (∀ (x0 : Nat) (st : List Value) (h : AH) (Q : Option Value → AH → Prop), WP 143 84 [.ref x0] (st) h Q ↔ WP 143 86 [.ref x0] (.int (14) :: st) h Q) ∧
  (∀ (x0 : Nat) (y0 : Int32) (st : List Value) (h : AH) (Q : Option Value → AH → Prop) (h0 : 0 ≤ y0) (h1 : y0.toNatClampNeg ≤ 1048576), WP 143 86 [.ref x0] (.int y0 :: st) h Q ↔ WP 143 88 [.ref x0] (.ref (hN h) :: st) (nw h 100 y0.toNatClampNeg y0.toNatClampNeg) Q) ∧
  (∀ (x0 : Nat) (y0 : Nat) (y1 : Nat) (st : List Value) (h : AH) (Q : Option Value → AH → Prop) (ht : hT h y1 = 13), WP 143 88 [.ref x0] (.ref y0 :: .ref y1 :: st) h Q ↔ WP 143 91 [.ref x0] (st) (sR h y1 21 y0) Q) ∧
  (∀ (x0 : Nat) (st : List Value) (h : AH) (Q : Option Value → AH → Prop), WP 143 91 [.ref x0] (st) h Q ↔ WP 143 92 [.ref x0] (.ref x0 :: st) h Q) ∧
  (∀ (x0 : Nat) (st : List Value) (h : AH) (Q : Option Value → AH → Prop), WP 143 92 [.ref x0] (st) h Q ↔ WP 143 94 [.ref x0] (.int (112) :: st) h Q) ∧
  (∀ (x0 : Nat) (y0 : Int32) (st : List Value) (h : AH) (Q : Option Value → AH → Prop) (h0 : 0 ≤ y0) (h1 : y0.toNatClampNeg ≤ 1048576), WP 143 94 [.ref x0] (.int y0 :: st) h Q ↔ WP 143 96 [.ref x0] (.ref (hN h) :: st) (nw h 100 y0.toNatClampNeg y0.toNatClampNeg) Q) ∧
  (∀ (x0 : Nat) (y0 : Nat) (y1 : Nat) (st : List Value) (h : AH) (Q : Option Value → AH → Prop) (ht : hT h y1 = 13), WP 143 96 [.ref x0] (.ref y0 :: .ref y1 :: st) h Q ↔ WP 143 99 [.ref x0] (st) (sR h y1 22 y0) Q) ∧
  (∀ (x0 : Nat) (st : List Value) (h : AH) (Q : Option Value → AH → Prop), WP 143 99 [.ref x0] (st) h Q ↔ WP 143 100 [.ref x0] (.ref x0 :: st) h Q) ∧
  (∀ (x0 : Nat) (st : List Value) (h : AH) (Q : Option Value → AH → Prop), WP 143 100 [.ref x0] (st) h Q ↔ WP 143 103 [.ref x0] (.int (16384) :: st) h Q) ∧
  (∀ (x0 : Nat) (y0 : Int32) (st : List Value) (h : AH) (Q : Option Value → AH → Prop) (h0 : 0 ≤ y0) (h1 : y0.toNatClampNeg ≤ 1048576), WP 143 103 [.ref x0] (.int y0 :: st) h Q ↔ WP 143 105 [.ref x0] (.ref (hN h) :: st) (nw h 100 y0.toNatClampNeg y0.toNatClampNeg) Q) ∧
  (∀ (x0 : Nat) (y0 : Nat) (y1 : Nat) (st : List Value) (h : AH) (Q : Option Value → AH → Prop) (ht : hT h y1 = 13), WP 143 105 [.ref x0] (.ref y0 :: .ref y1 :: st) h Q ↔ WP 143 108 [.ref x0] (st) (sR h y1 26 y0) Q) ∧
  (∀ (x0 : Nat) (st : List Value) (h : AH) (Q : Option Value → AH → Prop), WP 143 108 [.ref x0] (st) h Q ↔ WP 143 109 [.ref x0] (.ref x0 :: st) h Q) ∧
  (∀ (x0 : Nat) (st : List Value) (h : AH) (Q : Option Value → AH → Prop), WP 143 109 [.ref x0] (st) h Q ↔ WP 143 112 [.ref x0] (.int (16384) :: st) h Q) ∧
  (∀ (x0 : Nat) (y0 : Int32) (st : List Value) (h : AH) (Q : Option Value → AH → Prop) (h0 : 0 ≤ y0) (h1 : y0.toNatClampNeg ≤ 1048576), WP 143 112 [.ref x0] (.int y0 :: st) h Q ↔ WP 143 114 [.ref x0] (.ref (hN h) :: st) (nw h 100 y0.toNatClampNeg y0.toNatClampNeg) Q) ∧
  (∀ (x0 : Nat) (y0 : Nat) (y1 : Nat) (st : List Value) (h : AH) (Q : Option Value → AH → Prop) (ht : hT h y1 = 13), WP 143 114 [.ref x0] (.ref y0 :: .ref y1 :: st) h Q ↔ WP 143 117 [.ref x0] (st) (sR h y1 27 y0) Q) ∧
  (∀ (x0 : Nat) (st : List Value) (h : AH) (Q : Option Value → AH → Prop), WP 143 117 [.ref x0] (st) h Q ↔ WP 143 118 [.ref x0] (.ref x0 :: st) h Q) ∧
  (∀ (x0 : Nat) (st : List Value) (h : AH) (Q : Option Value → AH → Prop), WP 143 118 [.ref x0] (st) h Q ↔ WP 143 121 [.ref x0] (.int (16384) :: st) h Q) ∧
  (∀ (x0 : Nat) (y0 : Int32) (st : List Value) (h : AH) (Q : Option Value → AH → Prop) (h0 : 0 ≤ y0) (h1 : y0.toNatClampNeg ≤ 1048576), WP 143 121 [.ref x0] (.int y0 :: st) h Q ↔ WP 143 123 [.ref x0] (.ref (hN h) :: st) (nw h 103 y0.toNatClampNeg y0.toNatClampNeg) Q) ∧
  (∀ (x0 : Nat) (y0 : Nat) (y1 : Nat) (st : List Value) (h : AH) (Q : Option Value → AH → Prop) (ht : hT h y1 = 13), WP 143 123 [.ref x0] (.ref y0 :: .ref y1 :: st) h Q ↔ WP 143 126 [.ref x0] (st) (sR h y1 29 y0) Q) ∧
  (∀ (x0 : Nat) (st : List Value) (h : AH) (Q : Option Value → AH → Prop), WP 143 126 [.ref x0] (st) h Q ↔ WP 143 127 [.ref x0] (.ref x0 :: st) h Q) ∧
  (∀ (x0 : Nat) (st : List Value) (h : AH) (Q : Option Value → AH → Prop), WP 143 127 [.ref x0] (st) h Q ↔ WP 143 130 [.ref x0] (.int (16384) :: st) h Q) ∧
  (∀ (x0 : Nat) (y0 : Int32) (st : List Value) (h : AH) (Q : Option Value → AH → Prop) (h0 : 0 ≤ y0) (h1 : y0.toNatClampNeg ≤ 1048576), WP 143 130 [.ref x0] (.int y0 :: st) h Q ↔ WP 143 132 [.ref x0] (.ref (hN h) :: st) (nw h 100 y0.toNatClampNeg y0.toNatClampNeg) Q) ∧
  (∀ (x0 : Nat) (y0 : Nat) (y1 : Nat) (st : List Value) (h : AH) (Q : Option Value → AH → Prop) (ht : hT h y1 = 13), WP 143 132 [.ref x0] (.ref y0 :: .ref y1 :: st) h Q ↔ WP 143 135 [.ref x0] (st) (sR h y1 30 y0) Q) ∧
  (∀ (x0 : Nat) (st : List Value) (h : AH) (Q : Option Value → AH → Prop), WP 143 135 [.ref x0] (st) h Q ↔ WP 143 136 [.ref x0] (.ref x0 :: st) h Q) ∧
  (∀ (x0 : Nat) (st : List Value) (h : AH) (Q : Option Value → AH → Prop), WP 143 136 [.ref x0] (st) h Q ↔ WP 143 138 [.ref x0] (.int (14) :: st) h Q) ∧
  (∀ (x0 : Nat) (y0 : Int32) (st : List Value) (h : AH) (Q : Option Value → AH → Prop) (h0 : 0 ≤ y0) (h1 : y0.toNatClampNeg ≤ 1048576), WP 143 138 [.ref x0] (.int y0 :: st) h Q ↔ WP 143 140 [.ref x0] (.ref (hN h) :: st) (nw h 100 y0.toNatClampNeg y0.toNatClampNeg) Q) ∧
  (∀ (x0 : Nat) (y0 : Nat) (y1 : Nat) (st : List Value) (h : AH) (Q : Option Value → AH → Prop) (ht : hT h y1 = 13), WP 143 140 [.ref x0] (.ref y0 :: .ref y1 :: st) h Q ↔ WP 143 143 [.ref x0] (st) (sR h y1 33 y0) Q) ∧
  (∀ (x0 : Nat) (st : List Value) (h : AH) (Q : Option Value → AH → Prop), WP 143 143 [.ref x0] (st) h Q ↔ WP 143 144 [.ref x0] (.ref x0 :: st) h Q) ∧
  (∀ (x0 : Nat) (st : List Value) (h : AH) (Q : Option Value → AH → Prop), WP 143 144 [.ref x0] (st) h Q ↔ WP 143 147 [.ref x0] (.int (16384) :: st) h Q) ∧
  (∀ (x0 : Nat) (y0 : Int32) (st : List Value) (h : AH) (Q : Option Value → AH → Prop) (h0 : 0 ≤ y0) (h1 : y0.toNatClampNeg ≤ 1048576), WP 143 147 [.ref x0] (.int y0 :: st) h Q ↔ WP 143 149 [.ref x0] (.ref (hN h) :: st) (nw h 100 y0.toNatClampNeg y0.toNatClampNeg) Q) ∧
  (∀ (x0 : Nat) (y0 : Nat) (y1 : Nat) (st : List Value) (h : AH) (Q : Option Value → AH → Prop) (ht : hT h y1 = 13), WP 143 149 [.ref x0] (.ref y0 :: .ref y1 :: st) h Q ↔ WP 143 152 [.ref x0] (st) (sR h y1 34 y0) Q) ∧
  (∀ (x0 : Nat) (st : List Value) (h : AH) (Q : Option Value → AH → Prop), WP 143 152 [.ref x0] (st) h Q ↔ WP 143 153 [.ref x0] (.ref x0 :: st) h Q) ∧
  (∀ (x0 : Nat) (st : List Value) (h : AH) (Q : Option Value → AH → Prop), WP 143 153 [.ref x0] (st) h Q ↔ WP 143 156 [.ref x0] (.int (16384) :: st) h Q) ∧
  (∀ (x0 : Nat) (y0 : Int32) (st : List Value) (h : AH) (Q : Option Value → AH → Prop) (h0 : 0 ≤ y0) (h1 : y0.toNatClampNeg ≤ 1048576), WP 143 156 [.ref x0] (.int y0 :: st) h Q ↔ WP 143 158 [.ref x0] (.ref (hN h) :: st) (nw h 102 y0.toNatClampNeg y0.toNatClampNeg) Q) ∧
  (∀ (x0 : Nat) (y0 : Nat) (y1 : Nat) (st : List Value) (h : AH) (Q : Option Value → AH → Prop) (ht : hT h y1 = 13), WP 143 158 [.ref x0] (.ref y0 :: .ref y1 :: st) h Q ↔ WP 143 161 [.ref x0] (st) (sR h y1 35 y0) Q) ∧
  (∀ (x0 : Nat) (st : List Value) (h : AH) (Q : Option Value → AH → Prop), WP 143 161 [.ref x0] (st) h Q ↔ WP 143 162 [.ref x0] (.ref x0 :: st) h Q) ∧
  (∀ (x0 : Nat) (st : List Value) (h : AH) (Q : Option Value → AH → Prop), WP 143 162 [.ref x0] (st) h Q ↔ WP 143 165 [.ref x0] (.int (16384) :: st) h Q) :=
  ⟨fun _ _ _ _ _ h0 h1 => WH_newa (show ct 143 78 = some (.newarray .int, 1, [100, 209]) by decide +kernel) (by decide) h0 h1,
  fun _ _ _ _ _ _ ht => WH_pR (show ct 143 80 = some (.putfield 40, 1, [12, 20, 2, 1, 1293]) by decide +kernel) ht,
  fun _ _ _ _ => WP_s (show ct 143 83 = some (.aload_n 0, 0, []) by decide +kernel) rfl,
  fun _ _ _ _ => WP_s (show ct 143 84 = some (.bipush 14, 0, []) by decide +kernel) rfl,
  fun _ _ _ _ _ h0 h1 => WH_newa (show ct 143 86 = some (.newarray .int, 1, [100, 209]) by decide +kernel) (by decide) h0 h1,
  fun _ _ _ _ _ _ ht => WH_pR (show ct 143 88 = some (.putfield 43, 1, [12, 21, 2, 1, 1294]) by decide +kernel) ht,
  fun _ _ _ _ => WP_s (show ct 143 91 = some (.aload_n 0, 0, []) by decide +kernel) rfl,
  fun _ _ _ _ => WP_s (show ct 143 92 = some (.bipush 112, 0, []) by decide +kernel) rfl,
  fun _ _ _ _ _ h0 h1 => WH_newa (show ct 143 94 = some (.newarray .int, 1, [100, 209]) by decide +kernel) (by decide) h0 h1,
  fun _ _ _ _ _ _ ht => WH_pR (show ct 143 96 = some (.putfield 46, 1, [12, 22, 2, 1, 1295]) by decide +kernel) ht,
  fun _ _ _ _ => WP_s (show ct 143 99 = some (.aload_n 0, 0, []) by decide +kernel) rfl,
  fun _ _ _ _ => WP_s (show ct 143 100 = some (.sipush 16384, 0, []) by decide +kernel) rfl,
  fun _ _ _ _ _ h0 h1 => WH_newa (show ct 143 103 = some (.newarray .int, 1, [100, 209]) by decide +kernel) (by decide) h0 h1,
  fun _ _ _ _ _ _ ht => WH_pR (show ct 143 105 = some (.putfield 49, 1, [12, 26, 2, 1, 1299]) by decide +kernel) ht,
  fun _ _ _ _ => WP_s (show ct 143 108 = some (.aload_n 0, 0, []) by decide +kernel) rfl,
  fun _ _ _ _ => WP_s (show ct 143 109 = some (.sipush 16384, 0, []) by decide +kernel) rfl,
  fun _ _ _ _ _ h0 h1 => WH_newa (show ct 143 112 = some (.newarray .int, 1, [100, 209]) by decide +kernel) (by decide) h0 h1,
  fun _ _ _ _ _ _ ht => WH_pR (show ct 143 114 = some (.putfield 52, 1, [12, 27, 2, 1, 1300]) by decide +kernel) ht,
  fun _ _ _ _ => WP_s (show ct 143 117 = some (.aload_n 0, 0, []) by decide +kernel) rfl,
  fun _ _ _ _ => WP_s (show ct 143 118 = some (.sipush 16384, 0, []) by decide +kernel) rfl,
  fun _ _ _ _ _ h0 h1 => WH_newa (show ct 143 121 = some (.newarray .long, 1, [103, 344]) by decide +kernel) (by decide) h0 h1,
  fun _ _ _ _ _ _ ht => WH_pR (show ct 143 123 = some (.putfield 55, 1, [12, 29, 2, 1, 1302]) by decide +kernel) ht,
  fun _ _ _ _ => WP_s (show ct 143 126 = some (.aload_n 0, 0, []) by decide +kernel) rfl,
  fun _ _ _ _ => WP_s (show ct 143 127 = some (.sipush 16384, 0, []) by decide +kernel) rfl,
  fun _ _ _ _ _ h0 h1 => WH_newa (show ct 143 130 = some (.newarray .int, 1, [100, 209]) by decide +kernel) (by decide) h0 h1,
  fun _ _ _ _ _ _ ht => WH_pR (show ct 143 132 = some (.putfield 58, 1, [12, 30, 2, 1, 1303]) by decide +kernel) ht,
  fun _ _ _ _ => WP_s (show ct 143 135 = some (.aload_n 0, 0, []) by decide +kernel) rfl,
  fun _ _ _ _ => WP_s (show ct 143 136 = some (.bipush 14, 0, []) by decide +kernel) rfl,
  fun _ _ _ _ _ h0 h1 => WH_newa (show ct 143 138 = some (.newarray .int, 1, [100, 209]) by decide +kernel) (by decide) h0 h1,
  fun _ _ _ _ _ _ ht => WH_pR (show ct 143 140 = some (.putfield 61, 1, [12, 33, 2, 1, 1306]) by decide +kernel) ht,
  fun _ _ _ _ => WP_s (show ct 143 143 = some (.aload_n 0, 0, []) by decide +kernel) rfl,
  fun _ _ _ _ => WP_s (show ct 143 144 = some (.sipush 16384, 0, []) by decide +kernel) rfl,
  fun _ _ _ _ _ h0 h1 => WH_newa (show ct 143 147 = some (.newarray .int, 1, [100, 209]) by decide +kernel) (by decide) h0 h1,
  fun _ _ _ _ _ _ ht => WH_pR (show ct 143 149 = some (.putfield 64, 1, [12, 34, 2, 1, 1307]) by decide +kernel) ht,
  fun _ _ _ _ => WP_s (show ct 143 152 = some (.aload_n 0, 0, []) by decide +kernel) rfl,
  fun _ _ _ _ => WP_s (show ct 143 153 = some (.sipush 16384, 0, []) by decide +kernel) rfl,
  fun _ _ _ _ _ h0 h1 => WH_newa (show ct 143 156 = some (.newarray .boolean, 1, [102, 1445]) by decide +kernel) (by decide) h0 h1,
  fun _ _ _ _ _ _ ht => WH_pR (show ct 143 158 = some (.putfield 67, 1, [12, 35, 2, 1, 1308]) by decide +kernel) ht,
  fun _ _ _ _ => WP_s (show ct 143 161 = some (.aload_n 0, 0, []) by decide +kernel) rfl,
  fun _ _ _ _ => WP_s (show ct 143 162 = some (.sipush 16384, 0, []) by decide +kernel) rfl⟩
set_option maxRecDepth 10000 in
theorem w143_c : (∀ (x0 : Nat) (y0 : Int32) (st : List Value) (h : AH) (Q : Option Value → AH → Prop) (h0 : 0 ≤ y0) (h1 : y0.toNatClampNeg ≤ 1048576), WP 143 165 [.ref x0] (.int y0 :: st) h Q ↔ WP 143 167 [.ref x0] (.ref (hN h) :: st) (nw h 100 y0.toNatClampNeg y0.toNatClampNeg) Q) ∧
  (∀ (x0 : Nat) (y0 : Nat) (y1 : Nat) (st : List Value) (h : AH) (Q : Option Value → AH → Prop) (ht : hT h y1 = 13), WP 143 167 [.ref x0] (.ref y0 :: .ref y1 :: st) h Q ↔ WP 143 170 [.ref x0] (st) (sR h y1 36 y0) Q) ∧
  (∀ (x0 : Nat) (st : List Value) (h : AH) (Q : Option Value → AH → Prop), WP 143 170 [.ref x0] (st) h Q ↔ WP 143 171 [.ref x0] (.ref x0 :: st) h Q) ∧
  (∀ (x0 : Nat) (st : List Value) (h : AH) (Q : Option Value → AH → Prop), WP 143 171 [.ref x0] (st) h Q ↔ WP 143 173 [.ref x0] (.int (14) :: st) h Q) ∧
  (∀ (x0 : Nat) (y0 : Int32) (st : List Value) (h : AH) (Q : Option Value → AH → Prop) (h0 : 0 ≤ y0) (h1 : y0.toNatClampNeg ≤ 1048576), WP 143 173 [.ref x0] (.int y0 :: st) h Q ↔ WP 143 175 [.ref x0] (.ref (hN h) :: st) (nw h 100 y0.toNatClampNeg y0.toNatClampNeg) Q) ∧
  (∀ (x0 : Nat) (y0 : Nat) (y1 : Nat) (st : List Value) (h : AH) (Q : Option Value → AH → Prop) (ht : hT h y1 = 13), WP 143 175 [.ref x0] (.ref y0 :: .ref y1 :: st) h Q ↔ WP 143 178 [.ref x0] (st) (sR h y1 37 y0) Q) ∧
  (∀ (x0 : Nat) (st : List Value) (h : AH) (Q : Option Value → AH → Prop), WP 143 178 [.ref x0] (st) h Q ↔ WP 143 179 [.ref x0] (.ref x0 :: st) h Q) ∧
  (∀ (x0 : Nat) (st : List Value) (h : AH) (Q : Option Value → AH → Prop), WP 143 179 [.ref x0] (st) h Q ↔ WP 143 182 [.ref x0] (.int (16384) :: st) h Q) ∧
  (∀ (x0 : Nat) (y0 : Int32) (st : List Value) (h : AH) (Q : Option Value → AH → Prop) (h0 : 0 ≤ y0) (h1 : y0.toNatClampNeg ≤ 1048576), WP 143 182 [.ref x0] (.int y0 :: st) h Q ↔ WP 143 184 [.ref x0] (.ref (hN h) :: st) (nw h 103 y0.toNatClampNeg y0.toNatClampNeg) Q) ∧
  (∀ (x0 : Nat) (y0 : Nat) (y1 : Nat) (st : List Value) (h : AH) (Q : Option Value → AH → Prop) (ht : hT h y1 = 13), WP 143 184 [.ref x0] (.ref y0 :: .ref y1 :: st) h Q ↔ WP 143 187 [.ref x0] (st) (sR h y1 38 y0) Q) ∧
  (∀ (x0 : Nat) (st : List Value) (h : AH) (Q : Option Value → AH → Prop), WP 143 187 [.ref x0] (st) h Q ↔ WP 143 188 [.ref x0] (.ref x0 :: st) h Q) ∧
  (∀ (x0 : Nat) (st : List Value) (h : AH) (Q : Option Value → AH → Prop), WP 143 188 [.ref x0] (st) h Q ↔ WP 143 190 [.ref x0] (.int (nI 65536) :: st) h Q) ∧
  (∀ (x0 : Nat) (y0 : Int32) (st : List Value) (h : AH) (Q : Option Value → AH → Prop) (h0 : 0 ≤ y0) (h1 : y0.toNatClampNeg ≤ 1048576), WP 143 190 [.ref x0] (.int y0 :: st) h Q ↔ WP 143 192 [.ref x0] (.ref (hN h) :: st) (nw h 100 y0.toNatClampNeg y0.toNatClampNeg) Q) ∧
  (∀ (x0 : Nat) (y0 : Nat) (y1 : Nat) (st : List Value) (h : AH) (Q : Option Value → AH → Prop) (ht : hT h y1 = 13), WP 143 192 [.ref x0] (.ref y0 :: .ref y1 :: st) h Q ↔ WP 143 195 [.ref x0] (st) (sR h y1 42 y0) Q) ∧
  (∀ (x0 : Nat) (st : List Value) (h : AH) (Q : Option Value → AH → Prop), WP 143 195 [.ref x0] (st) h Q ↔ WP 143 196 [.ref x0] (.ref x0 :: st) h Q) ∧
  (∀ (x0 : Nat) (st : List Value) (h : AH) (Q : Option Value → AH → Prop), WP 143 196 [.ref x0] (st) h Q ↔ WP 143 198 [.ref x0] (.int (nI 131072) :: st) h Q) ∧
  (∀ (x0 : Nat) (y0 : Int32) (st : List Value) (h : AH) (Q : Option Value → AH → Prop) (h0 : 0 ≤ y0) (h1 : y0.toNatClampNeg ≤ 1048576), WP 143 198 [.ref x0] (.int y0 :: st) h Q ↔ WP 143 200 [.ref x0] (.ref (hN h) :: st) (nw h 100 y0.toNatClampNeg y0.toNatClampNeg) Q) ∧
  (∀ (x0 : Nat) (y0 : Nat) (y1 : Nat) (st : List Value) (h : AH) (Q : Option Value → AH → Prop) (ht : hT h y1 = 13), WP 143 200 [.ref x0] (.ref y0 :: .ref y1 :: st) h Q ↔ WP 143 203 [.ref x0] (st) (sR h y1 43 y0) Q) ∧
  (∀ (x0 : Nat) (st : List Value) (h : AH) (Q : Option Value → AH → Prop), WP 143 203 [.ref x0] (st) h Q ↔ WP 143 204 [.ref x0] (.ref x0 :: st) h Q) ∧
  (∀ (x0 : Nat) (st : List Value) (h : AH) (Q : Option Value → AH → Prop), WP 143 204 [.ref x0] (st) h Q ↔ WP 143 207 [.ref x0] (.int (256) :: st) h Q) ∧
  (∀ (x0 : Nat) (y0 : Int32) (st : List Value) (h : AH) (Q : Option Value → AH → Prop) (h0 : 0 ≤ y0) (h1 : y0.toNatClampNeg ≤ 1048576), WP 143 207 [.ref x0] (.int y0 :: st) h Q ↔ WP 143 209 [.ref x0] (.ref (hN h) :: st) (nw h 102 y0.toNatClampNeg y0.toNatClampNeg) Q) ∧
  (∀ (x0 : Nat) (y0 : Nat) (y1 : Nat) (st : List Value) (h : AH) (Q : Option Value → AH → Prop) (ht : hT h y1 = 13), WP 143 209 [.ref x0] (.ref y0 :: .ref y1 :: st) h Q ↔ WP 143 212 [.ref x0] (st) (sR h y1 44 y0) Q) ∧
  (∀ (x0 : Nat) (st : List Value) (h : AH) (Q : Option Value → AH → Prop), WP 143 212 [.ref x0] (st) h Q ↔ WP 143 213 [.ref x0] (.ref x0 :: st) h Q) ∧
  (∀ (x0 : Nat) (st : List Value) (h : AH) (Q : Option Value → AH → Prop), WP 143 213 [.ref x0] (st) h Q ↔ WP 143 216 [.ref x0] (.int (256) :: st) h Q) ∧
  (∀ (x0 : Nat) (y0 : Int32) (st : List Value) (h : AH) (Q : Option Value → AH → Prop) (h0 : 0 ≤ y0) (h1 : y0.toNatClampNeg ≤ 1048576), WP 143 216 [.ref x0] (.int y0 :: st) h Q ↔ WP 143 218 [.ref x0] (.ref (hN h) :: st) (nw h 102 y0.toNatClampNeg y0.toNatClampNeg) Q) ∧
  (∀ (x0 : Nat) (y0 : Nat) (y1 : Nat) (st : List Value) (h : AH) (Q : Option Value → AH → Prop) (ht : hT h y1 = 13), WP 143 218 [.ref x0] (.ref y0 :: .ref y1 :: st) h Q ↔ WP 143 221 [.ref x0] (st) (sR h y1 45 y0) Q) ∧
  (∀ (x0 : Nat) (st : List Value) (h : AH) (Q : Option Value → AH → Prop), WP 143 221 [.ref x0] (st) h Q ↔ WP 143 222 [.ref x0] (.ref x0 :: st) h Q) ∧
  (∀ (x0 : Nat) (st : List Value) (h : AH) (Q : Option Value → AH → Prop), WP 143 222 [.ref x0] (st) h Q ↔ WP 143 225 [.ref x0] (.int (256) :: st) h Q) ∧
  (∀ (x0 : Nat) (y0 : Int32) (st : List Value) (h : AH) (Q : Option Value → AH → Prop) (h0 : 0 ≤ y0) (h1 : y0.toNatClampNeg ≤ 1048576), WP 143 225 [.ref x0] (.int y0 :: st) h Q ↔ WP 143 227 [.ref x0] (.ref (hN h) :: st) (nw h 102 y0.toNatClampNeg y0.toNatClampNeg) Q) ∧
  (∀ (x0 : Nat) (y0 : Nat) (y1 : Nat) (st : List Value) (h : AH) (Q : Option Value → AH → Prop) (ht : hT h y1 = 13), WP 143 227 [.ref x0] (.ref y0 :: .ref y1 :: st) h Q ↔ WP 143 230 [.ref x0] (st) (sR h y1 46 y0) Q) ∧
  (∀ (x0 : Nat) (st : List Value) (h : AH) (Q : Option Value → AH → Prop), WP 143 230 [.ref x0] (st) h Q ↔ WP 143 231 [.ref x0] (.ref x0 :: st) h Q) ∧
  (∀ (x0 : Nat) (st : List Value) (h : AH) (Q : Option Value → AH → Prop), WP 143 231 [.ref x0] (st) h Q ↔ WP 143 233 [.ref x0] (.int (60) :: st) h Q) ∧
  (∀ (x0 : Nat) (y0 : Int32) (st : List Value) (h : AH) (Q : Option Value → AH → Prop) (h0 : 0 ≤ y0) (h1 : y0.toNatClampNeg ≤ 1048576), WP 143 233 [.ref x0] (.int y0 :: st) h Q ↔ WP 143 235 [.ref x0] (.ref (hN h) :: st) (nw h 100 y0.toNatClampNeg y0.toNatClampNeg) Q) ∧
  (∀ (x0 : Nat) (y0 : Nat) (y1 : Nat) (st : List Value) (h : AH) (Q : Option Value → AH → Prop) (ht : hT h y1 = 13), WP 143 235 [.ref x0] (.ref y0 :: .ref y1 :: st) h Q ↔ WP 143 238 [.ref x0] (st) (sR h y1 47 y0) Q) ∧
  (∀ (x0 : Nat) (st : List Value) (h : AH) (Q : Option Value → AH → Prop), WP 143 238 [.ref x0] (st) h Q ↔ WP 143 239 [.ref x0] (.ref x0 :: st) h Q) ∧
  (∀ (x0 : Nat) (st : List Value) (h : AH) (Q : Option Value → AH → Prop), WP 143 239 [.ref x0] (st) h Q ↔ WP 143 241 [.ref x0] (.int (60) :: st) h Q) ∧
  (∀ (x0 : Nat) (y0 : Int32) (st : List Value) (h : AH) (Q : Option Value → AH → Prop) (h0 : 0 ≤ y0) (h1 : y0.toNatClampNeg ≤ 1048576), WP 143 241 [.ref x0] (.int y0 :: st) h Q ↔ WP 143 243 [.ref x0] (.ref (hN h) :: st) (nw h 100 y0.toNatClampNeg y0.toNatClampNeg) Q) ∧
  (∀ (x0 : Nat) (y0 : Nat) (y1 : Nat) (st : List Value) (h : AH) (Q : Option Value → AH → Prop) (ht : hT h y1 = 13), WP 143 243 [.ref x0] (.ref y0 :: .ref y1 :: st) h Q ↔ WP 143 246 [.ref x0] (st) (sR h y1 48 y0) Q) ∧
  (∀ (x0 : Nat) (st : List Value) (h : AH) (Q : Option Value → AH → Prop), WP 143 246 [.ref x0] (st) h Q ↔ WP 143 247 [.ref x0] (.ref x0 :: st) h Q) ∧
  (∀ (x0 : Nat) (st : List Value) (h : AH) (Q : Option Value → AH → Prop), WP 143 247 [.ref x0] (st) h Q ↔ WP 143 249 [.ref x0] (.int (nI 999424) :: st) h Q) :=
  ⟨fun _ _ _ _ _ h0 h1 => WH_newa (show ct 143 165 = some (.newarray .int, 1, [100, 209]) by decide +kernel) (by decide) h0 h1,
  fun _ _ _ _ _ _ ht => WH_pR (show ct 143 167 = some (.putfield 70, 1, [12, 36, 2, 1, 1309]) by decide +kernel) ht,
  fun _ _ _ _ => WP_s (show ct 143 170 = some (.aload_n 0, 0, []) by decide +kernel) rfl,
  fun _ _ _ _ => WP_s (show ct 143 171 = some (.bipush 14, 0, []) by decide +kernel) rfl,
  fun _ _ _ _ _ h0 h1 => WH_newa (show ct 143 173 = some (.newarray .int, 1, [100, 209]) by decide +kernel) (by decide) h0 h1,
  fun _ _ _ _ _ _ ht => WH_pR (show ct 143 175 = some (.putfield 73, 1, [12, 37, 2, 1, 1310]) by decide +kernel) ht,
  fun _ _ _ _ => WP_s (show ct 143 178 = some (.aload_n 0, 0, []) by decide +kernel) rfl,
  fun _ _ _ _ => WP_s (show ct 143 179 = some (.sipush 16384, 0, []) by decide +kernel) rfl,
  fun _ _ _ _ _ h0 h1 => WH_newa (show ct 143 182 = some (.newarray .long, 1, [103, 344]) by decide +kernel) (by decide) h0 h1,
  fun _ _ _ _ _ _ ht => WH_pR (show ct 143 184 = some (.putfield 76, 1, [12, 38, 2, 1, 1311]) by decide +kernel) ht,
  fun _ _ _ _ => WP_s (show ct 143 187 = some (.aload_n 0, 0, []) by decide +kernel) rfl,
  fun _ _ _ _ => WP_s (show ct 143 188 = some (.ldc 79, 0, [65536, 1270]) by decide +kernel) rfl,
  fun _ _ _ _ _ h0 h1 => WH_newa (show ct 143 190 = some (.newarray .int, 1, [100, 209]) by decide +kernel) (by decide) h0 h1,
  fun _ _ _ _ _ _ ht => WH_pR (show ct 143 192 = some (.putfield 80, 1, [12, 42, 2, 1, 1315]) by decide +kernel) ht,
  fun _ _ _ _ => WP_s (show ct 143 195 = some (.aload_n 0, 0, []) by decide +kernel) rfl,
  fun _ _ _ _ => WP_s (show ct 143 196 = some (.ldc 83, 0, [131072, 1271]) by decide +kernel) rfl,
  fun _ _ _ _ _ h0 h1 => WH_newa (show ct 143 198 = some (.newarray .int, 1, [100, 209]) by decide +kernel) (by decide) h0 h1,
  fun _ _ _ _ _ _ ht => WH_pR (show ct 143 200 = some (.putfield 84, 1, [12, 43, 2, 1, 1316]) by decide +kernel) ht,
  fun _ _ _ _ => WP_s (show ct 143 203 = some (.aload_n 0, 0, []) by decide +kernel) rfl,
  fun _ _ _ _ => WP_s (show ct 143 204 = some (.sipush 256, 0, []) by decide +kernel) rfl,
  fun _ _ _ _ _ h0 h1 => WH_newa (show ct 143 207 = some (.newarray .boolean, 1, [102, 1445]) by decide +kernel) (by decide) h0 h1,
  fun _ _ _ _ _ _ ht => WH_pR (show ct 143 209 = some (.putfield 87, 1, [12, 44, 2, 1, 1317]) by decide +kernel) ht,
  fun _ _ _ _ => WP_s (show ct 143 212 = some (.aload_n 0, 0, []) by decide +kernel) rfl,
  fun _ _ _ _ => WP_s (show ct 143 213 = some (.sipush 256, 0, []) by decide +kernel) rfl,
  fun _ _ _ _ _ h0 h1 => WH_newa (show ct 143 216 = some (.newarray .boolean, 1, [102, 1445]) by decide +kernel) (by decide) h0 h1,
  fun _ _ _ _ _ _ ht => WH_pR (show ct 143 218 = some (.putfield 90, 1, [12, 45, 2, 1, 1318]) by decide +kernel) ht,
  fun _ _ _ _ => WP_s (show ct 143 221 = some (.aload_n 0, 0, []) by decide +kernel) rfl,
  fun _ _ _ _ => WP_s (show ct 143 222 = some (.sipush 256, 0, []) by decide +kernel) rfl,
  fun _ _ _ _ _ h0 h1 => WH_newa (show ct 143 225 = some (.newarray .boolean, 1, [102, 1445]) by decide +kernel) (by decide) h0 h1,
  fun _ _ _ _ _ _ ht => WH_pR (show ct 143 227 = some (.putfield 93, 1, [12, 46, 2, 1, 1319]) by decide +kernel) ht,
  fun _ _ _ _ => WP_s (show ct 143 230 = some (.aload_n 0, 0, []) by decide +kernel) rfl,
  fun _ _ _ _ => WP_s (show ct 143 231 = some (.bipush 60, 0, []) by decide +kernel) rfl,
  fun _ _ _ _ _ h0 h1 => WH_newa (show ct 143 233 = some (.newarray .int, 1, [100, 209]) by decide +kernel) (by decide) h0 h1,
  fun _ _ _ _ _ _ ht => WH_pR (show ct 143 235 = some (.putfield 96, 1, [12, 47, 2, 1, 1320]) by decide +kernel) ht,
  fun _ _ _ _ => WP_s (show ct 143 238 = some (.aload_n 0, 0, []) by decide +kernel) rfl,
  fun _ _ _ _ => WP_s (show ct 143 239 = some (.bipush 60, 0, []) by decide +kernel) rfl,
  fun _ _ _ _ _ h0 h1 => WH_newa (show ct 143 241 = some (.newarray .int, 1, [100, 209]) by decide +kernel) (by decide) h0 h1,
  fun _ _ _ _ _ _ ht => WH_pR (show ct 143 243 = some (.putfield 99, 1, [12, 48, 2, 1, 1321]) by decide +kernel) ht,
  fun _ _ _ _ => WP_s (show ct 143 246 = some (.aload_n 0, 0, []) by decide +kernel) rfl,
  fun _ _ _ _ => WP_s (show ct 143 247 = some (.ldc 102, 0, [999424, 1272]) by decide +kernel) rfl⟩
set_option maxRecDepth 10000 in
theorem w143_d : (∀ (x0 : Nat) (y0 : Int32) (st : List Value) (h : AH) (Q : Option Value → AH → Prop) (h0 : 0 ≤ y0) (h1 : y0.toNatClampNeg ≤ 1048576), WP 143 249 [.ref x0] (.int y0 :: st) h Q ↔ WP 143 251 [.ref x0] (.ref (hN h) :: st) (nw h 101 y0.toNatClampNeg y0.toNatClampNeg) Q) ∧
  (∀ (x0 : Nat) (y0 : Nat) (y1 : Nat) (st : List Value) (h : AH) (Q : Option Value → AH → Prop) (ht : hT h y1 = 13), WP 143 251 [.ref x0] (.ref y0 :: .ref y1 :: st) h Q ↔ WP 143 254 [.ref x0] (st) (sR h y1 54 y0) Q) ∧
  (∀ (x0 : Nat) (st : List Value) (h : AH) (Q : Option Value → AH → Prop), WP 143 254 [.ref x0] (st) h Q ↔ WP 143 255 [.ref x0] (.ref x0 :: st) h Q) ∧
  (∀ (x0 : Nat) (st : List Value) (h : AH) (Q : Option Value → AH → Prop), WP 143 255 [.ref x0] (st) h Q ↔ WP 143 257 [.ref x0] (.int (60) :: st) h Q) ∧
  (∀ (x0 : Nat) (y0 : Int32) (st : List Value) (h : AH) (Q : Option Value → AH → Prop) (h0 : 0 ≤ y0) (h1 : y0.toNatClampNeg ≤ 1048576), WP 143 257 [.ref x0] (.int y0 :: st) h Q ↔ WP 143 259 [.ref x0] (.ref (hN h) :: st) (nw h 100 y0.toNatClampNeg y0.toNatClampNeg) Q) ∧
  (∀ (x0 : Nat) (y0 : Nat) (y1 : Nat) (st : List Value) (h : AH) (Q : Option Value → AH → Prop) (ht : hT h y1 = 13), WP 143 259 [.ref x0] (.ref y0 :: .ref y1 :: st) h Q ↔ WP 143 262 [.ref x0] (st) (sR h y1 55 y0) Q) ∧
  (∀ (x0 : Nat) (h : AH) (Q : Option Value → AH → Prop), WP 143 262 [.ref x0] ([]) h Q ↔ Q none h) :=
  ⟨fun _ _ _ _ _ h0 h1 => WH_newa (show ct 143 249 = some (.newarray .byte, 1, [101, 208]) by decide +kernel) (by decide) h0 h1,
  fun _ _ _ _ _ _ ht => WH_pR (show ct 143 251 = some (.putfield 103, 1, [12, 54, 2, 1, 1327]) by decide +kernel) ht,
  fun _ _ _ _ => WP_s (show ct 143 254 = some (.aload_n 0, 0, []) by decide +kernel) rfl,
  fun _ _ _ _ => WP_s (show ct 143 255 = some (.bipush 60, 0, []) by decide +kernel) rfl,
  fun _ _ _ _ _ h0 h1 => WH_newa (show ct 143 257 = some (.newarray .int, 1, [100, 209]) by decide +kernel) (by decide) h0 h1,
  fun _ _ _ _ _ _ ht => WH_pR (show ct 143 259 = some (.putfield 106, 1, [12, 55, 2, 1, 1328]) by decide +kernel) ht,
  fun _ _ _ => WR_v (show ct 143 262 = some (.return_, 2, [0]) by decide +kernel)⟩
/-- all of 143 -/
def w143_n : Nat := 4
/-! 144: FewBowlsModel.thrown()I; loop heads [] -/
set_option maxRecDepth 10000 in
theorem w144 : (∀ (x0 : Nat) (st : List Value) (h : AH) (Q : Option Value → AH → Prop), WP 144 0 [.ref x0] (st) h Q ↔ WP 144 1 [.ref x0] (.ref x0 :: st) h Q) ∧
  (∀ (x0 : Nat) (y0 : Nat) (st : List Value) (h : AH) (Q : Option Value → AH → Prop) (ht : hT h y0 = 13), WP 144 1 [.ref x0] (.ref y0 :: st) h Q ↔ WP 144 4 [.ref x0] (.int (hI h y0 0) :: st) h Q) ∧
  (∀ (x0 : Nat) (y0 : Int32) (h : AH) (Q : Option Value → AH → Prop), WP 144 4 [.ref x0] ([.int y0]) h Q ↔ Q (some (.int y0)) h) :=
  ⟨fun _ _ _ _ => WP_s (show ct 144 0 = some (.aload_n 0, 0, []) by decide +kernel) rfl,
  fun _ _ _ _ _ ht => WH_gI (show ct 144 1 = some (.getfield 109, 1, [12, 0, 0, 1273]) by decide +kernel) (by decide) ht,
  fun _ _ _ _ => WR_i (show ct 144 4 = some (.ireturn, 2, [0]) by decide +kernel)⟩
/-! 145: FewBowlsModel.throwsIf(Z)Z; loop heads [] -/
set_option maxRecDepth 10000 in
theorem w145 : (∀ (x0 : Nat) (x1 : Int32) (st : List Value) (h : AH) (Q : Option Value → AH → Prop), WP 145 0 [.ref x0, .int x1] (st) h Q ↔ WP 145 1 [.ref x0, .int x1] (.ref x0 :: st) h Q) ∧
  (∀ (x0 : Nat) (x1 : Int32) (st : List Value) (h : AH) (Q : Option Value → AH → Prop), WP 145 1 [.ref x0, .int x1] (st) h Q ↔ WP 145 2 [.ref x0, .int x1] (.int x1 :: st) h Q) ∧
  (∀ (x0 : Nat) (x1 : Int32) (y0 : Int32) (st : List Value) (h : AH) (Q : Option Value → AH → Prop), WP 145 2 [.ref x0, .int x1] (.int y0 :: st) h Q ↔ ((y0 = 0 → WP 145 9 [.ref x0, .int x1] (st) h Q) ∧ (¬ y0 = 0 → WP 145 5 [.ref x0, .int x1] (st) h Q))) ∧
  (∀ (x0 : Nat) (x1 : Int32) (st : List Value) (h : AH) (Q : Option Value → AH → Prop), WP 145 5 [.ref x0, .int x1] (st) h Q ↔ WP 145 6 [.ref x0, .int x1] (.int (1) :: st) h Q) ∧
  (∀ (x0 : Nat) (x1 : Int32) (st : List Value) (h : AH) (Q : Option Value → AH → Prop), WP 145 6 [.ref x0, .int x1] (st) h Q ↔ WP 145 10 [.ref x0, .int x1] (st) h Q) ∧
  (∀ (x0 : Nat) (x1 : Int32) (st : List Value) (h : AH) (Q : Option Value → AH → Prop), WP 145 9 [.ref x0, .int x1] (st) h Q ↔ WP 145 10 [.ref x0, .int x1] (.int (0) :: st) h Q) ∧
  (∀ (x0 : Nat) (x1 : Int32) (y0 : Int32) (y1 : Nat) (st : List Value) (h : AH) (Q : Option Value → AH → Prop) (ht : hT h y1 = 13), WP 145 10 [.ref x0, .int x1] (.int y0 :: .ref y1 :: st) h Q ↔ WP 145 13 [.ref x0, .int x1] (st) (sI h y1 0 y0) Q) ∧
  (∀ (x0 : Nat) (x1 : Int32) (st : List Value) (h : AH) (Q : Option Value → AH → Prop), WP 145 13 [.ref x0, .int x1] (st) h Q ↔ WP 145 14 [.ref x0, .int x1] (.int x1 :: st) h Q) ∧
  (∀ (x0 : Nat) (x1 : Int32) (y0 : Int32) (h : AH) (Q : Option Value → AH → Prop) (hz : y0 = 0 ∨ y0 = 1), WP 145 14 [.ref x0, .int x1] ([.int y0]) h Q ↔ Q (some (.int y0)) h) :=
  ⟨fun _ _ _ _ _ => WP_s (show ct 145 0 = some (.aload_n 0, 0, []) by decide +kernel) rfl,
  fun _ _ _ _ _ => WP_s (show ct 145 1 = some (.iload_n 1, 0, []) by decide +kernel) rfl,
  fun _ _ _ _ _ _ => WZ_eq (show ct 145 2 = some (.ifCond .eq 7, 0, [9]) by decide +kernel) (by decide),
  fun _ _ _ _ _ => WP_s (show ct 145 5 = some (.iconst 1, 0, []) by decide +kernel) rfl,
  fun _ _ _ _ _ => WP_s (show ct 145 6 = some (.goto 4, 0, [10]) by decide +kernel) rfl,
  fun _ _ _ _ _ => WP_s (show ct 145 9 = some (.iconst 0, 0, []) by decide +kernel) rfl,
  fun _ _ _ _ _ _ _ ht => WH_pI (show ct 145 10 = some (.putfield 109, 1, [12, 0, 0, 0, 1273]) by decide +kernel) ht,
  fun _ _ _ _ _ => WP_s (show ct 145 13 = some (.iload_n 1, 0, []) by decide +kernel) rfl,
  fun _ _ _ _ _ hz => WR_z (show ct 145 14 = some (.ireturn, 2, [1]) by decide +kernel) hz⟩
/-! 146: FewBowlsModel.feed(IIIII)I; loop heads [] -/
set_option maxRecDepth 10000 in
theorem w146 : (∀ (x0 : Nat) (x1 : Int32) (x2 : Int32) (x3 : Int32) (x4 : Int32) (x5 : Int32) (st : List Value) (h : AH) (Q : Option Value → AH → Prop), WP 146 0 [.ref x0, .int x1, .int x2, .int x3, .int x4, .int x5] (st) h Q ↔ WP 146 1 [.ref x0, .int x1, .int x2, .int x3, .int x4, .int x5] (.ref x0 :: st) h Q) ∧
  (∀ (x0 : Nat) (x1 : Int32) (x2 : Int32) (x3 : Int32) (x4 : Int32) (x5 : Int32) (st : List Value) (h : AH) (Q : Option Value → AH → Prop), WP 146 1 [.ref x0, .int x1, .int x2, .int x3, .int x4, .int x5] (st) h Q ↔ WP 146 2 [.ref x0, .int x1, .int x2, .int x3, .int x4, .int x5] (.int (0) :: st) h Q) ∧
  (∀ (x0 : Nat) (x1 : Int32) (x2 : Int32) (x3 : Int32) (x4 : Int32) (x5 : Int32) (y0 : Int32) (y1 : Nat) (st : List Value) (h : AH) (Q : Option Value → AH → Prop) (ht : hT h y1 = 13), WP 146 2 [.ref x0, .int x1, .int x2, .int x3, .int x4, .int x5] (.int y0 :: .ref y1 :: st) h Q ↔ WP 146 5 [.ref x0, .int x1, .int x2, .int x3, .int x4, .int x5] (st) (sI h y1 0 y0) Q) ∧
  (∀ (x0 : Nat) (x1 : Int32) (x2 : Int32) (x3 : Int32) (x4 : Int32) (x5 : Int32) (st : List Value) (h : AH) (Q : Option Value → AH → Prop), WP 146 5 [.ref x0, .int x1, .int x2, .int x3, .int x4, .int x5] (st) h Q ↔ WP 146 6 [.ref x0, .int x1, .int x2, .int x3, .int x4, .int x5] (.ref x0 :: st) h Q) ∧
  (∀ (x0 : Nat) (x1 : Int32) (x2 : Int32) (x3 : Int32) (x4 : Int32) (x5 : Int32) (y0 : Nat) (st : List Value) (h : AH) (Q : Option Value → AH → Prop) (ht : hT h y0 = 13), WP 146 6 [.ref x0, .int x1, .int x2, .int x3, .int x4, .int x5] (.ref y0 :: st) h Q ↔ WP 146 9 [.ref x0, .int x1, .int x2, .int x3, .int x4, .int x5] (.int (hI h y0 2) :: st) h Q) ∧
  (∀ (x0 : Nat) (x1 : Int32) (x2 : Int32) (x3 : Int32) (x4 : Int32) (x5 : Int32) (st : List Value) (h : AH) (Q : Option Value → AH → Prop), WP 146 9 [.ref x0, .int x1, .int x2, .int x3, .int x4, .int x5] (st) h Q ↔ WP 146 11 [.ref x0, .int x1, .int x2, .int x3, .int x4, .int x5] (.int (20) :: st) h Q) ∧
  (∀ (x0 : Nat) (x1 : Int32) (x2 : Int32) (x3 : Int32) (x4 : Int32) (x5 : Int32) (y0 : Int32) (y1 : Int32) (st : List Value) (h : AH) (Q : Option Value → AH → Prop), WP 146 11 [.ref x0, .int x1, .int x2, .int x3, .int x4, .int x5] (.int y0 :: .int y1 :: st) h Q ↔ WP 146 12 [.ref x0, .int x1, .int x2, .int x3, .int x4, .int x5] (.int (y1 + y0) :: st) h Q) ∧
  (∀ (x0 : Nat) (x1 : Int32) (x2 : Int32) (x3 : Int32) (x4 : Int32) (x5 : Int32) (st : List Value) (h : AH) (Q : Option Value → AH → Prop), WP 146 12 [.ref x0, .int x1, .int x2, .int x3, .int x4, .int x5] (st) h Q ↔ WP 146 15 [.ref x0, .int x1, .int x2, .int x3, .int x4, .int x5] (.int (540) :: st) h Q) ∧
  (∀ (x0 : Nat) (x1 : Int32) (x2 : Int32) (x3 : Int32) (x4 : Int32) (x5 : Int32) (y0 : Int32) (y1 : Int32) (st : List Value) (h : AH) (Q : Option Value → AH → Prop), WP 146 15 [.ref x0, .int x1, .int x2, .int x3, .int x4, .int x5] (.int y0 :: .int y1 :: st) h Q ↔ ((y1 ≤ y0 → WP 146 20 [.ref x0, .int x1, .int x2, .int x3, .int x4, .int x5] (st) h Q) ∧ (¬ y1 ≤ y0 → WP 146 18 [.ref x0, .int x1, .int x2, .int x3, .int x4, .int x5] (st) h Q))) ∧
  (∀ (x0 : Nat) (x1 : Int32) (x2 : Int32) (x3 : Int32) (x4 : Int32) (x5 : Int32) (st : List Value) (h : AH) (Q : Option Value → AH → Prop), WP 146 18 [.ref x0, .int x1, .int x2, .int x3, .int x4, .int x5] (st) h Q ↔ WP 146 19 [.ref x0, .int x1, .int x2, .int x3, .int x4, .int x5] (.int (-1) :: st) h Q) ∧
  (∀ (x0 : Nat) (x1 : Int32) (x2 : Int32) (x3 : Int32) (x4 : Int32) (x5 : Int32) (y0 : Int32) (h : AH) (Q : Option Value → AH → Prop), WP 146 19 [.ref x0, .int x1, .int x2, .int x3, .int x4, .int x5] ([.int y0]) h Q ↔ Q (some (.int y0)) h) ∧
  (∀ (x0 : Nat) (x1 : Int32) (x2 : Int32) (x3 : Int32) (x4 : Int32) (x5 : Int32) (st : List Value) (h : AH) (Q : Option Value → AH → Prop), WP 146 20 [.ref x0, .int x1, .int x2, .int x3, .int x4, .int x5] (st) h Q ↔ WP 146 21 [.ref x0, .int x1, .int x2, .int x3, .int x4, .int x5] (.ref x0 :: st) h Q) ∧
  (∀ (x0 : Nat) (x1 : Int32) (x2 : Int32) (x3 : Int32) (x4 : Int32) (x5 : Int32) (st : List Value) (h : AH) (Q : Option Value → AH → Prop), WP 146 21 [.ref x0, .int x1, .int x2, .int x3, .int x4, .int x5] (st) h Q ↔ WP 146 22 [.ref x0, .int x1, .int x2, .int x3, .int x4, .int x5] (.int x1 :: st) h Q) ∧
  (∀ (x0 : Nat) (x1 : Int32) (x2 : Int32) (x3 : Int32) (x4 : Int32) (x5 : Int32) (y1 : Nat) (y0 : Int32) (h : AH) (Q : Option Value → AH → Prop) (ht : hT h y1 = 13), WP 146 22 [.ref x0, .int x1, .int x2, .int x3, .int x4, .int x5] ([.int y0, .ref y1]) h Q ↔ WPM 147 [.ref y1, .int y0] h (fun r h' => WP 146 25 [.ref x0, .int x1, .int x2, .int x3, .int x4, .int x5] (r.toList ++ []) h' Q)) ∧
  (∀ (x0 : Nat) (x1 : Int32) (x2 : Int32) (x3 : Int32) (x4 : Int32) (x5 : Int32) (st : List Value) (h : AH) (Q : Option Value → AH → Prop), WP 146 25 [.ref x0, .int x1, .int x2, .int x3, .int x4, .int x5] (st) h Q ↔ WP 146 26 [.ref x0, .int x1, .int x2, .int x3, .int x4, .int x5] (.ref x0 :: st) h Q) ∧
  (∀ (x0 : Nat) (x1 : Int32) (x2 : Int32) (x3 : Int32) (x4 : Int32) (x5 : Int32) (st : List Value) (h : AH) (Q : Option Value → AH → Prop), WP 146 26 [.ref x0, .int x1, .int x2, .int x3, .int x4, .int x5] (st) h Q ↔ WP 146 27 [.ref x0, .int x1, .int x2, .int x3, .int x4, .int x5] (.int x2 :: st) h Q) ∧
  (∀ (x0 : Nat) (x1 : Int32) (x2 : Int32) (x3 : Int32) (x4 : Int32) (x5 : Int32) (y1 : Nat) (y0 : Int32) (h : AH) (Q : Option Value → AH → Prop) (ht : hT h y1 = 13), WP 146 27 [.ref x0, .int x1, .int x2, .int x3, .int x4, .int x5] ([.int y0, .ref y1]) h Q ↔ WPM 147 [.ref y1, .int y0] h (fun r h' => WP 146 30 [.ref x0, .int x1, .int x2, .int x3, .int x4, .int x5] (r.toList ++ []) h' Q)) ∧
  (∀ (x0 : Nat) (x1 : Int32) (x2 : Int32) (x3 : Int32) (x4 : Int32) (x5 : Int32) (st : List Value) (h : AH) (Q : Option Value → AH → Prop), WP 146 30 [.ref x0, .int x1, .int x2, .int x3, .int x4, .int x5] (st) h Q ↔ WP 146 31 [.ref x0, .int x1, .int x2, .int x3, .int x4, .int x5] (.ref x0 :: st) h Q) ∧
  (∀ (x0 : Nat) (x1 : Int32) (x2 : Int32) (x3 : Int32) (x4 : Int32) (x5 : Int32) (st : List Value) (h : AH) (Q : Option Value → AH → Prop), WP 146 31 [.ref x0, .int x1, .int x2, .int x3, .int x4, .int x5] (st) h Q ↔ WP 146 32 [.ref x0, .int x1, .int x2, .int x3, .int x4, .int x5] (.int x3 :: st) h Q) ∧
  (∀ (x0 : Nat) (x1 : Int32) (x2 : Int32) (x3 : Int32) (x4 : Int32) (x5 : Int32) (y1 : Nat) (y0 : Int32) (h : AH) (Q : Option Value → AH → Prop) (ht : hT h y1 = 13), WP 146 32 [.ref x0, .int x1, .int x2, .int x3, .int x4, .int x5] ([.int y0, .ref y1]) h Q ↔ WPM 147 [.ref y1, .int y0] h (fun r h' => WP 146 35 [.ref x0, .int x1, .int x2, .int x3, .int x4, .int x5] (r.toList ++ []) h' Q)) ∧
  (∀ (x0 : Nat) (x1 : Int32) (x2 : Int32) (x3 : Int32) (x4 : Int32) (x5 : Int32) (st : List Value) (h : AH) (Q : Option Value → AH → Prop), WP 146 35 [.ref x0, .int x1, .int x2, .int x3, .int x4, .int x5] (st) h Q ↔ WP 146 36 [.ref x0, .int x1, .int x2, .int x3, .int x4, .int x5] (.ref x0 :: st) h Q) ∧
  (∀ (x0 : Nat) (x1 : Int32) (x2 : Int32) (x3 : Int32) (x4 : Int32) (x5 : Int32) (st : List Value) (h : AH) (Q : Option Value → AH → Prop), WP 146 36 [.ref x0, .int x1, .int x2, .int x3, .int x4, .int x5] (st) h Q ↔ WP 146 38 [.ref x0, .int x1, .int x2, .int x3, .int x4, .int x5] (.int x4 :: st) h Q) ∧
  (∀ (x0 : Nat) (x1 : Int32) (x2 : Int32) (x3 : Int32) (x4 : Int32) (x5 : Int32) (y1 : Nat) (y0 : Int32) (h : AH) (Q : Option Value → AH → Prop) (ht : hT h y1 = 13), WP 146 38 [.ref x0, .int x1, .int x2, .int x3, .int x4, .int x5] ([.int y0, .ref y1]) h Q ↔ WPM 147 [.ref y1, .int y0] h (fun r h' => WP 146 41 [.ref x0, .int x1, .int x2, .int x3, .int x4, .int x5] (r.toList ++ []) h' Q)) ∧
  (∀ (x0 : Nat) (x1 : Int32) (x2 : Int32) (x3 : Int32) (x4 : Int32) (x5 : Int32) (st : List Value) (h : AH) (Q : Option Value → AH → Prop), WP 146 41 [.ref x0, .int x1, .int x2, .int x3, .int x4, .int x5] (st) h Q ↔ WP 146 42 [.ref x0, .int x1, .int x2, .int x3, .int x4, .int x5] (.ref x0 :: st) h Q) ∧
  (∀ (x0 : Nat) (x1 : Int32) (x2 : Int32) (x3 : Int32) (x4 : Int32) (x5 : Int32) (st : List Value) (h : AH) (Q : Option Value → AH → Prop), WP 146 42 [.ref x0, .int x1, .int x2, .int x3, .int x4, .int x5] (st) h Q ↔ WP 146 44 [.ref x0, .int x1, .int x2, .int x3, .int x4, .int x5] (.int x5 :: st) h Q) ∧
  (∀ (x0 : Nat) (x1 : Int32) (x2 : Int32) (x3 : Int32) (x4 : Int32) (x5 : Int32) (y1 : Nat) (y0 : Int32) (h : AH) (Q : Option Value → AH → Prop) (ht : hT h y1 = 13), WP 146 44 [.ref x0, .int x1, .int x2, .int x3, .int x4, .int x5] ([.int y0, .ref y1]) h Q ↔ WPM 147 [.ref y1, .int y0] h (fun r h' => WP 146 47 [.ref x0, .int x1, .int x2, .int x3, .int x4, .int x5] (r.toList ++ []) h' Q)) ∧
  (∀ (x0 : Nat) (x1 : Int32) (x2 : Int32) (x3 : Int32) (x4 : Int32) (x5 : Int32) (st : List Value) (h : AH) (Q : Option Value → AH → Prop), WP 146 47 [.ref x0, .int x1, .int x2, .int x3, .int x4, .int x5] (st) h Q ↔ WP 146 48 [.ref x0, .int x1, .int x2, .int x3, .int x4, .int x5] (.ref x0 :: st) h Q) ∧
  (∀ (x0 : Nat) (x1 : Int32) (x2 : Int32) (x3 : Int32) (x4 : Int32) (x5 : Int32) (y0 : Nat) (st : List Value) (h : AH) (Q : Option Value → AH → Prop) (ht : hT h y0 = 13), WP 146 48 [.ref x0, .int x1, .int x2, .int x3, .int x4, .int x5] (.ref y0 :: st) h Q ↔ WP 146 51 [.ref x0, .int x1, .int x2, .int x3, .int x4, .int x5] (.int (hI h y0 2) :: st) h Q) ∧
  (∀ (x0 : Nat) (x1 : Int32) (x2 : Int32) (x3 : Int32) (x4 : Int32) (x5 : Int32) (y0 : Int32) (h : AH) (Q : Option Value → AH → Prop), WP 146 51 [.ref x0, .int x1, .int x2, .int x3, .int x4, .int x5] ([.int y0]) h Q ↔ Q (some (.int y0)) h) :=
  ⟨fun _ _ _ _ _ _ _ _ _ => WP_s (show ct 146 0 = some (.aload_n 0, 0, []) by decide +kernel) rfl,
  fun _ _ _ _ _ _ _ _ _ => WP_s (show ct 146 1 = some (.iconst 0, 0, []) by decide +kernel) rfl,
  fun _ _ _ _ _ _ _ _ _ _ _ ht => WH_pI (show ct 146 2 = some (.putfield 109, 1, [12, 0, 0, 0, 1273]) by decide +kernel) ht,
  fun _ _ _ _ _ _ _ _ _ => WP_s (show ct 146 5 = some (.aload_n 0, 0, []) by decide +kernel) rfl,
  fun _ _ _ _ _ _ _ _ _ _ ht => WH_gI (show ct 146 6 = some (.getfield 113, 1, [12, 2, 0, 1275]) by decide +kernel) (by decide) ht,
  fun _ _ _ _ _ _ _ _ _ => WP_s (show ct 146 9 = some (.bipush 20, 0, []) by decide +kernel) rfl,
  fun _ _ _ _ _ _ _ _ _ _ _ => WP_s (show ct 146 11 = some (.iadd, 0, []) by decide +kernel) rfl,
  fun _ _ _ _ _ _ _ _ _ => WP_s (show ct 146 12 = some (.sipush 540, 0, []) by decide +kernel) rfl,
  fun _ _ _ _ _ _ _ _ _ _ _ => WI_le (show ct 146 15 = some (.if_icmp .le 5, 0, [20]) by decide +kernel) (by decide),
  fun _ _ _ _ _ _ _ _ _ => WP_s (show ct 146 18 = some (.iconst (-1), 0, []) by decide +kernel) rfl,
  fun _ _ _ _ _ _ _ _ _ => WR_i (show ct 146 19 = some (.ireturn, 2, [0]) by decide +kernel),
  fun _ _ _ _ _ _ _ _ _ => WP_s (show ct 146 20 = some (.aload_n 0, 0, []) by decide +kernel) rfl,
  fun _ _ _ _ _ _ _ _ _ => WP_s (show ct 146 21 = some (.iload_n 1, 0, []) by decide +kernel) rfl,
  fun _ _ _ _ _ _ _ _ _ _ ht => WC_1 (show ct 146 22 = some (.invokevirtual 116, 3, [147, 2, 1, 13, 0, 1454, 1456, 56]) by decide +kernel) (Nat.le_of_ble_eq_true rfl) (Nat.le_of_ble_eq_true rfl) rfl rfl ht,
  fun _ _ _ _ _ _ _ _ _ => WP_s (show ct 146 25 = some (.aload_n 0, 0, []) by decide +kernel) rfl,
  fun _ _ _ _ _ _ _ _ _ => WP_s (show ct 146 26 = some (.iload_n 2, 0, []) by decide +kernel) rfl,
  fun _ _ _ _ _ _ _ _ _ _ ht => WC_1 (show ct 146 27 = some (.invokevirtual 116, 3, [147, 2, 1, 13, 0, 1454, 1456, 56]) by decide +kernel) (Nat.le_of_ble_eq_true rfl) (Nat.le_of_ble_eq_true rfl) rfl rfl ht,
  fun _ _ _ _ _ _ _ _ _ => WP_s (show ct 146 30 = some (.aload_n 0, 0, []) by decide +kernel) rfl,
  fun _ _ _ _ _ _ _ _ _ => WP_s (show ct 146 31 = some (.iload_n 3, 0, []) by decide +kernel) rfl,
  fun _ _ _ _ _ _ _ _ _ _ ht => WC_1 (show ct 146 32 = some (.invokevirtual 116, 3, [147, 2, 1, 13, 0, 1454, 1456, 56]) by decide +kernel) (Nat.le_of_ble_eq_true rfl) (Nat.le_of_ble_eq_true rfl) rfl rfl ht,
  fun _ _ _ _ _ _ _ _ _ => WP_s (show ct 146 35 = some (.aload_n 0, 0, []) by decide +kernel) rfl,
  fun _ _ _ _ _ _ _ _ _ => WP_s (show ct 146 36 = some (.iload 4, 0, []) by decide +kernel) rfl,
  fun _ _ _ _ _ _ _ _ _ _ ht => WC_1 (show ct 146 38 = some (.invokevirtual 116, 3, [147, 2, 1, 13, 0, 1454, 1456, 56]) by decide +kernel) (Nat.le_of_ble_eq_true rfl) (Nat.le_of_ble_eq_true rfl) rfl rfl ht,
  fun _ _ _ _ _ _ _ _ _ => WP_s (show ct 146 41 = some (.aload_n 0, 0, []) by decide +kernel) rfl,
  fun _ _ _ _ _ _ _ _ _ => WP_s (show ct 146 42 = some (.iload 5, 0, []) by decide +kernel) rfl,
  fun _ _ _ _ _ _ _ _ _ _ ht => WC_1 (show ct 146 44 = some (.invokevirtual 116, 3, [147, 2, 1, 13, 0, 1454, 1456, 56]) by decide +kernel) (Nat.le_of_ble_eq_true rfl) (Nat.le_of_ble_eq_true rfl) rfl rfl ht,
  fun _ _ _ _ _ _ _ _ _ => WP_s (show ct 146 47 = some (.aload_n 0, 0, []) by decide +kernel) rfl,
  fun _ _ _ _ _ _ _ _ _ _ ht => WH_gI (show ct 146 48 = some (.getfield 113, 1, [12, 2, 0, 1275]) by decide +kernel) (by decide) ht,
  fun _ _ _ _ _ _ _ _ _ => WR_i (show ct 146 51 = some (.ireturn, 2, [0]) by decide +kernel)⟩
/-! 147: FewBowlsModel.four(I)V; loop heads [3] -/
theorem w147_3 : ∀ (x0 : Nat) (x1 : Int32) (x2 : Int32) (st : List Value) (h : AH) (Q : Option Value → AH → Prop), WP 147 3 [.ref x0, .int x1, .int x2] (st) h Q ↔ WP 147 4 [.ref x0, .int x1, .int x2] (.int x2 :: st) h Q := fun _ _ _ _ _ _ => WP_s (show ct 147 3 = some (.iload_n 2, 0, []) by decide +kernel) rfl
set_option maxRecDepth 10000 in
theorem w147 : (∀ (x0 : Nat) (x1 : Int32) (st : List Value) (h : AH) (Q : Option Value → AH → Prop), WP 147 0 [.ref x0, .int x1, .retAddr 0] (st) h Q ↔ WP 147 2 [.ref x0, .int x1, .retAddr 0] (.int (24) :: st) h Q) ∧
  (∀ (x0 : Nat) (x1 : Int32) (y0 : Int32) (st : List Value) (h : AH) (Q : Option Value → AH → Prop), WP 147 2 [.ref x0, .int x1, .retAddr 0] (.int y0 :: st) h Q ↔ WP 147 3 [.ref x0, .int x1, .int y0] (st) h Q) ∧
  (∀ (x0 : Nat) (x1 : Int32) (x2 : Int32) (y0 : Int32) (st : List Value) (h : AH) (Q : Option Value → AH → Prop), WP 147 4 [.ref x0, .int x1, .int x2] (.int y0 :: st) h Q ↔ ((y0 < 0 → WP 147 36 [.ref x0, .int x1, .int x2] (st) h Q) ∧ (¬ y0 < 0 → WP 147 7 [.ref x0, .int x1, .int x2] (st) h Q))) ∧
  (∀ (x0 : Nat) (x1 : Int32) (x2 : Int32) (st : List Value) (h : AH) (Q : Option Value → AH → Prop), WP 147 7 [.ref x0, .int x1, .int x2] (st) h Q ↔ WP 147 8 [.ref x0, .int x1, .int x2] (.ref x0 :: st) h Q) ∧
  (∀ (x0 : Nat) (x1 : Int32) (x2 : Int32) (y0 : Nat) (st : List Value) (h : AH) (Q : Option Value → AH → Prop) (ht : hT h y0 = 13), WP 147 8 [.ref x0, .int x1, .int x2] (.ref y0 :: st) h Q ↔ WP 147 11 [.ref x0, .int x1, .int x2] (.ref (hR h y0 1) :: st) h Q) ∧
  (∀ (x0 : Nat) (x1 : Int32) (x2 : Int32) (st : List Value) (h : AH) (Q : Option Value → AH → Prop), WP 147 11 [.ref x0, .int x1, .int x2] (st) h Q ↔ WP 147 12 [.ref x0, .int x1, .int x2] (.ref x0 :: st) h Q) ∧
  (∀ (x0 : Nat) (x1 : Int32) (x2 : Int32) (y0 : Nat) (st : List Value) (h : AH) (Q : Option Value → AH → Prop) (ht : hT h y0 = 13), WP 147 12 [.ref x0, .int x1, .int x2] (.ref y0 :: st) h Q ↔ WP 147 15 [.ref x0, .int x1, .int x2] (.int (hI h y0 2) :: st) h Q) ∧
  (∀ (x0 : Nat) (x1 : Int32) (x2 : Int32) (st : List Value) (h : AH) (Q : Option Value → AH → Prop), WP 147 15 [.ref x0, .int x1, .int x2] (st) h Q ↔ WP 147 16 [.ref x0, .int x1, .int x2] (.int x1 :: st) h Q) ∧
  (∀ (x0 : Nat) (x1 : Int32) (x2 : Int32) (st : List Value) (h : AH) (Q : Option Value → AH → Prop), WP 147 16 [.ref x0, .int x1, .int x2] (st) h Q ↔ WP 147 17 [.ref x0, .int x1, .int x2] (.int x2 :: st) h Q) ∧
  (∀ (x0 : Nat) (x1 : Int32) (x2 : Int32) (y0 : Int32) (y1 : Int32) (st : List Value) (h : AH) (Q : Option Value → AH → Prop), WP 147 17 [.ref x0, .int x1, .int x2] (.int y0 :: .int y1 :: st) h Q ↔ WP 147 18 [.ref x0, .int x1, .int x2] (.int (y1 >>> (y0 &&& 31)) :: st) h Q) ∧
  (∀ (x0 : Nat) (x1 : Int32) (x2 : Int32) (y0 : Int32) (st : List Value) (h : AH) (Q : Option Value → AH → Prop), WP 147 18 [.ref x0, .int x1, .int x2] (.int y0 :: st) h Q ↔ WP 147 19 [.ref x0, .int x1, .int x2] (.int y0.toInt8.toInt32 :: st) h Q) ∧
  (∀ (x0 : Nat) (x1 : Int32) (x2 : Int32) (y0 : Int32) (y1 : Int32) (y2 : Nat) (st : List Value) (h : AH) (Q : Option Value → AH → Prop) (ht : hT h y2 = 101) (hi : inb y1 (hL h y2) = true), WP 147 19 [.ref x0, .int x1, .int x2] (.int y0 :: .int y1 :: .ref y2 :: st) h Q ↔ WP 147 20 [.ref x0, .int x1, .int x2] (st) (sI h y2 y1.toNatClampNeg y0.toInt8.toInt32) Q) ∧
  (∀ (x0 : Nat) (x1 : Int32) (x2 : Int32) (y0 : Int32) (y1 : Int32) (y2 : Nat) (st : List Value) (h : AH) (Q : Option Value → AH → Prop) (ht : hT h y2 = 102) (hi : inb y1 (hL h y2) = true), WP 147 19 [.ref x0, .int x1, .int x2] (.int y0 :: .int y1 :: .ref y2 :: st) h Q ↔ WP 147 20 [.ref x0, .int x1, .int x2] (st) (sI h y2 y1.toNatClampNeg (y0 &&& 1)) Q) ∧
  (∀ (x0 : Nat) (x1 : Int32) (x2 : Int32) (st : List Value) (h : AH) (Q : Option Value → AH → Prop), WP 147 20 [.ref x0, .int x1, .int x2] (st) h Q ↔ WP 147 21 [.ref x0, .int x1, .int x2] (.ref x0 :: st) h Q) ∧
  (∀ (x0 : Nat) (x1 : Int32) (x2 : Int32) (y0 : Nat) (st : List Value) (h : AH) (Q : Option Value → AH → Prop), WP 147 21 [.ref x0, .int x1, .int x2] (.ref y0 :: st) h Q ↔ WP 147 22 [.ref x0, .int x1, .int x2] (.ref y0 :: .ref y0 :: st) h Q) ∧
  (∀ (x0 : Nat) (x1 : Int32) (x2 : Int32) (y0 : Nat) (st : List Value) (h : AH) (Q : Option Value → AH → Prop) (ht : hT h y0 = 13), WP 147 22 [.ref x0, .int x1, .int x2] (.ref y0 :: st) h Q ↔ WP 147 25 [.ref x0, .int x1, .int x2] (.int (hI h y0 2) :: st) h Q) ∧
  (∀ (x0 : Nat) (x1 : Int32) (x2 : Int32) (st : List Value) (h : AH) (Q : Option Value → AH → Prop), WP 147 25 [.ref x0, .int x1, .int x2] (st) h Q ↔ WP 147 26 [.ref x0, .int x1, .int x2] (.int (1) :: st) h Q) ∧
  (∀ (x0 : Nat) (x1 : Int32) (x2 : Int32) (y0 : Int32) (y1 : Int32) (st : List Value) (h : AH) (Q : Option Value → AH → Prop), WP 147 26 [.ref x0, .int x1, .int x2] (.int y0 :: .int y1 :: st) h Q ↔ WP 147 27 [.ref x0, .int x1, .int x2] (.int (y1 + y0) :: st) h Q) ∧
  (∀ (x0 : Nat) (x1 : Int32) (x2 : Int32) (y0 : Int32) (y1 : Nat) (st : List Value) (h : AH) (Q : Option Value → AH → Prop) (ht : hT h y1 = 13), WP 147 27 [.ref x0, .int x1, .int x2] (.int y0 :: .ref y1 :: st) h Q ↔ WP 147 30 [.ref x0, .int x1, .int x2] (st) (sI h y1 2 y0) Q) ∧
  (∀ (x0 : Nat) (x1 : Int32) (x2 : Int32) (st : List Value) (h : AH) (Q : Option Value → AH → Prop), WP 147 30 [.ref x0, .int x1, .int x2] (st) h Q ↔ WP 147 33 [.ref x0, .int x1, .int (x2 + (-8))] (st) h Q) ∧
  (∀ (x0 : Nat) (x1 : Int32) (x2 : Int32) (st : List Value) (h : AH) (Q : Option Value → AH → Prop), WP 147 33 [.ref x0, .int x1, .int x2] (st) h Q ↔ WP 147 3 [.ref x0, .int x1, .int x2] (st) h Q) ∧
  (∀ (x0 : Nat) (x1 : Int32) (x2 : Int32) (h : AH) (Q : Option Value → AH → Prop), WP 147 36 [.ref x0, .int x1, .int x2] ([]) h Q ↔ Q none h) :=
  ⟨fun _ _ _ _ _ => WP_s (show ct 147 0 = some (.bipush 24, 0, []) by decide +kernel) rfl,
  fun _ _ _ _ _ _ => WP_s (show ct 147 2 = some (.istore_n 2, 0, []) by decide +kernel) rfl,
  fun _ _ _ _ _ _ _ => WZ_lt (show ct 147 4 = some (.ifCond .lt 32, 0, [36]) by decide +kernel) (by decide),
  fun _ _ _ _ _ _ => WP_s (show ct 147 7 = some (.aload_n 0, 0, []) by decide +kernel) rfl,
  fun _ _ _ _ _ _ _ ht => WH_gR (show ct 147 8 = some (.getfield 7, 1, [12, 1, 2, 1274]) by decide +kernel) ht,
  fun _ _ _ _ _ _ => WP_s (show ct 147 11 = some (.aload_n 0, 0, []) by decide +kernel) rfl,
  fun _ _ _ _ _ _ _ ht => WH_gI (show ct 147 12 = some (.getfield 113, 1, [12, 2, 0, 1275]) by decide +kernel) (by decide) ht,
  fun _ _ _ _ _ _ => WP_s (show ct 147 15 = some (.iload_n 1, 0, []) by decide +kernel) rfl,
  fun _ _ _ _ _ _ => WP_s (show ct 147 16 = some (.iload_n 2, 0, []) by decide +kernel) rfl,
  fun _ _ _ _ _ _ _ _ => WP_s (show ct 147 17 = some (.ishr, 0, []) by decide +kernel) rfl,
  fun _ _ _ _ _ _ _ => WP_s (show ct 147 18 = some (.i2b, 0, []) by decide +kernel) rfl,
  fun _ _ _ _ _ _ _ _ _ ht hi => WH_bast (show ct 147 19 = some (.bastore, 1, []) by decide +kernel) ht hi,
  fun _ _ _ _ _ _ _ _ _ ht hi => WH_zast (show ct 147 19 = some (.bastore, 1, []) by decide +kernel) ht hi,
  fun _ _ _ _ _ _ => WP_s (show ct 147 20 = some (.aload_n 0, 0, []) by decide +kernel) rfl,
  fun _ _ _ _ _ _ _ => WP_s (show ct 147 21 = some (.dup, 0, []) by decide +kernel) rfl,
  fun _ _ _ _ _ _ _ ht => WH_gI (show ct 147 22 = some (.getfield 113, 1, [12, 2, 0, 1275]) by decide +kernel) (by decide) ht,
  fun _ _ _ _ _ _ => WP_s (show ct 147 25 = some (.iconst 1, 0, []) by decide +kernel) rfl,
  fun _ _ _ _ _ _ _ _ => WP_s (show ct 147 26 = some (.iadd, 0, []) by decide +kernel) rfl,
  fun _ _ _ _ _ _ _ _ ht => WH_pI (show ct 147 27 = some (.putfield 113, 1, [12, 2, 0, 0, 1275]) by decide +kernel) ht,
  fun _ _ _ _ _ _ => WP_s (show ct 147 30 = some (.iinc 2 (-8), 0, []) by decide +kernel) rfl,
  fun _ _ _ _ _ _ => WP_s (show ct 147 33 = some (.goto (-30), 0, [3]) by decide +kernel) rfl,
  fun _ _ _ _ _ => WR_v (show ct 147 36 = some (.return_, 2, [0]) by decide +kernel)⟩
/-! 148: FewBowlsModel.end(I)Z; loop heads [] -/
set_option maxRecDepth 10000 in
theorem w148 : (∀ (x0 : Nat) (x1 : Int32) (st : List Value) (h : AH) (Q : Option Value → AH → Prop), WP 148 0 [.ref x0, .int x1] (st) h Q ↔ WP 148 1 [.ref x0, .int x1] (.ref x0 :: st) h Q) ∧
  (∀ (x0 : Nat) (x1 : Int32) (st : List Value) (h : AH) (Q : Option Value → AH → Prop), WP 148 1 [.ref x0, .int x1] (st) h Q ↔ WP 148 2 [.ref x0, .int x1] (.int (0) :: st) h Q) ∧
  (∀ (x0 : Nat) (x1 : Int32) (y0 : Int32) (y1 : Nat) (st : List Value) (h : AH) (Q : Option Value → AH → Prop) (ht : hT h y1 = 13), WP 148 2 [.ref x0, .int x1] (.int y0 :: .ref y1 :: st) h Q ↔ WP 148 5 [.ref x0, .int x1] (st) (sI h y1 0 y0) Q) ∧
  (∀ (x0 : Nat) (x1 : Int32) (st : List Value) (h : AH) (Q : Option Value → AH → Prop), WP 148 5 [.ref x0, .int x1] (st) h Q ↔ WP 148 6 [.ref x0, .int x1] (.int x1 :: st) h Q) ∧
  (∀ (x0 : Nat) (x1 : Int32) (y0 : Int32) (st : List Value) (h : AH) (Q : Option Value → AH → Prop), WP 148 6 [.ref x0, .int x1] (.int y0 :: st) h Q ↔ ((y0 < 0 → WP 148 17 [.ref x0, .int x1] (st) h Q) ∧ (¬ y0 < 0 → WP 148 9 [.ref x0, .int x1] (st) h Q))) ∧
  (∀ (x0 : Nat) (x1 : Int32) (st : List Value) (h : AH) (Q : Option Value → AH → Prop), WP 148 9 [.ref x0, .int x1] (st) h Q ↔ WP 148 10 [.ref x0, .int x1] (.int x1 :: st) h Q) ∧
  (∀ (x0 : Nat) (x1 : Int32) (st : List Value) (h : AH) (Q : Option Value → AH → Prop), WP 148 10 [.ref x0, .int x1] (st) h Q ↔ WP 148 11 [.ref x0, .int x1] (.ref x0 :: st) h Q) ∧
  (∀ (x0 : Nat) (x1 : Int32) (y0 : Nat) (st : List Value) (h : AH) (Q : Option Value → AH → Prop) (ht : hT h y0 = 13), WP 148 11 [.ref x0, .int x1] (.ref y0 :: st) h Q ↔ WP 148 14 [.ref x0, .int x1] (.int (hI h y0 2) :: st) h Q) ∧
  (∀ (x0 : Nat) (x1 : Int32) (y0 : Int32) (y1 : Int32) (st : List Value) (h : AH) (Q : Option Value → AH → Prop), WP 148 14 [.ref x0, .int x1] (.int y0 :: .int y1 :: st) h Q ↔ ((y1 ≤ y0 → WP 148 19 [.ref x0, .int x1] (st) h Q) ∧ (¬ y1 ≤ y0 → WP 148 17 [.ref x0, .int x1] (st) h Q))) ∧
  (∀ (x0 : Nat) (x1 : Int32) (st : List Value) (h : AH) (Q : Option Value → AH → Prop), WP 148 17 [.ref x0, .int x1] (st) h Q ↔ WP 148 18 [.ref x0, .int x1] (.int (0) :: st) h Q) ∧
  (∀ (x0 : Nat) (x1 : Int32) (y0 : Int32) (h : AH) (Q : Option Value → AH → Prop) (hz : y0 = 0 ∨ y0 = 1), WP 148 18 [.ref x0, .int x1] ([.int y0]) h Q ↔ Q (some (.int y0)) h) ∧
  (∀ (x0 : Nat) (x1 : Int32) (st : List Value) (h : AH) (Q : Option Value → AH → Prop), WP 148 19 [.ref x0, .int x1] (st) h Q ↔ WP 148 20 [.ref x0, .int x1] (.ref x0 :: st) h Q) ∧
  (∀ (x0 : Nat) (x1 : Int32) (st : List Value) (h : AH) (Q : Option Value → AH → Prop), WP 148 20 [.ref x0, .int x1] (st) h Q ↔ WP 148 21 [.ref x0, .int x1] (.int x1 :: st) h Q) ∧
  (∀ (x0 : Nat) (x1 : Int32) (y0 : Int32) (y1 : Nat) (st : List Value) (h : AH) (Q : Option Value → AH → Prop) (ht : hT h y1 = 13), WP 148 21 [.ref x0, .int x1] (.int y0 :: .ref y1 :: st) h Q ↔ WP 148 24 [.ref x0, .int x1] (st) (sI h y1 2 y0) Q) ∧
  (∀ (x0 : Nat) (x1 : Int32) (st : List Value) (h : AH) (Q : Option Value → AH → Prop), WP 148 24 [.ref x0, .int x1] (st) h Q ↔ WP 148 25 [.ref x0, .int x1] (.int (1) :: st) h Q) ∧
  (∀ (x0 : Nat) (x1 : Int32) (y0 : Int32) (h : AH) (Q : Option Value → AH → Prop) (hz : y0 = 0 ∨ y0 = 1), WP 148 25 [.ref x0, .int x1] ([.int y0]) h Q ↔ Q (some (.int y0)) h) :=
  ⟨fun _ _ _ _ _ => WP_s (show ct 148 0 = some (.aload_n 0, 0, []) by decide +kernel) rfl,
  fun _ _ _ _ _ => WP_s (show ct 148 1 = some (.iconst 0, 0, []) by decide +kernel) rfl,
  fun _ _ _ _ _ _ _ ht => WH_pI (show ct 148 2 = some (.putfield 109, 1, [12, 0, 0, 0, 1273]) by decide +kernel) ht,
  fun _ _ _ _ _ => WP_s (show ct 148 5 = some (.iload_n 1, 0, []) by decide +kernel) rfl,
  fun _ _ _ _ _ _ => WZ_lt (show ct 148 6 = some (.ifCond .lt 11, 0, [17]) by decide +kernel) (by decide),
  fun _ _ _ _ _ => WP_s (show ct 148 9 = some (.iload_n 1, 0, []) by decide +kernel) rfl,
  fun _ _ _ _ _ => WP_s (show ct 148 10 = some (.aload_n 0, 0, []) by decide +kernel) rfl,
  fun _ _ _ _ _ _ ht => WH_gI (show ct 148 11 = some (.getfield 113, 1, [12, 2, 0, 1275]) by decide +kernel) (by decide) ht,
  fun _ _ _ _ _ _ _ => WI_le (show ct 148 14 = some (.if_icmp .le 5, 0, [19]) by decide +kernel) (by decide),
  fun _ _ _ _ _ => WP_s (show ct 148 17 = some (.iconst 0, 0, []) by decide +kernel) rfl,
  fun _ _ _ _ _ hz => WR_z (show ct 148 18 = some (.ireturn, 2, [1]) by decide +kernel) hz,
  fun _ _ _ _ _ => WP_s (show ct 148 19 = some (.aload_n 0, 0, []) by decide +kernel) rfl,
  fun _ _ _ _ _ => WP_s (show ct 148 20 = some (.iload_n 1, 0, []) by decide +kernel) rfl,
  fun _ _ _ _ _ _ _ ht => WH_pI (show ct 148 21 = some (.putfield 113, 1, [12, 2, 0, 0, 1275]) by decide +kernel) ht,
  fun _ _ _ _ _ => WP_s (show ct 148 24 = some (.iconst 1, 0, []) by decide +kernel) rfl,
  fun _ _ _ _ _ hz => WR_z (show ct 148 25 = some (.ireturn, 2, [1]) by decide +kernel) hz⟩
/-! 149: FewBowlsModel.taken()V; loop heads [] -/
set_option maxRecDepth 10000 in
theorem w149 : (∀ (x0 : Nat) (st : List Value) (h : AH) (Q : Option Value → AH → Prop), WP 149 0 [.ref x0] (st) h Q ↔ WP 149 1 [.ref x0] (.ref x0 :: st) h Q) ∧
  (∀ (x0 : Nat) (st : List Value) (h : AH) (Q : Option Value → AH → Prop), WP 149 1 [.ref x0] (st) h Q ↔ WP 149 2 [.ref x0] (.ref x0 :: st) h Q) ∧
  (∀ (x0 : Nat) (y0 : Nat) (st : List Value) (h : AH) (Q : Option Value → AH → Prop) (ht : hT h y0 = 13), WP 149 2 [.ref x0] (.ref y0 :: st) h Q ↔ WP 149 5 [.ref x0] (.int (hI h y0 2) :: st) h Q) ∧
  (∀ (x0 : Nat) (y0 : Int32) (y1 : Nat) (st : List Value) (h : AH) (Q : Option Value → AH → Prop) (ht : hT h y1 = 13), WP 149 5 [.ref x0] (.int y0 :: .ref y1 :: st) h Q ↔ WP 149 8 [.ref x0] (st) (sI h y1 3 y0) Q) ∧
  (∀ (x0 : Nat) (st : List Value) (h : AH) (Q : Option Value → AH → Prop), WP 149 8 [.ref x0] (st) h Q ↔ WP 149 9 [.ref x0] (.ref x0 :: st) h Q) ∧
  (∀ (x0 : Nat) (st : List Value) (h : AH) (Q : Option Value → AH → Prop), WP 149 9 [.ref x0] (st) h Q ↔ WP 149 10 [.ref x0] (.int (0) :: st) h Q) ∧
  (∀ (x0 : Nat) (y0 : Int32) (y1 : Nat) (st : List Value) (h : AH) (Q : Option Value → AH → Prop) (ht : hT h y1 = 13), WP 149 10 [.ref x0] (.int y0 :: .ref y1 :: st) h Q ↔ WP 149 13 [.ref x0] (st) (sI h y1 2 y0) Q) ∧
  (∀ (x0 : Nat) (st : List Value) (h : AH) (Q : Option Value → AH → Prop), WP 149 13 [.ref x0] (st) h Q ↔ WP 149 14 [.ref x0] (.ref x0 :: st) h Q) ∧
  (∀ (x0 : Nat) (st : List Value) (h : AH) (Q : Option Value → AH → Prop), WP 149 14 [.ref x0] (st) h Q ↔ WP 149 15 [.ref x0] (.int (0) :: st) h Q) ∧
  (∀ (x0 : Nat) (y0 : Int32) (y1 : Nat) (st : List Value) (h : AH) (Q : Option Value → AH → Prop) (ht : hT h y1 = 13), WP 149 15 [.ref x0] (.int y0 :: .ref y1 :: st) h Q ↔ WP 149 18 [.ref x0] (st) (sI h y1 4 y0) Q) ∧
  (∀ (x0 : Nat) (h : AH) (Q : Option Value → AH → Prop), WP 149 18 [.ref x0] ([]) h Q ↔ Q none h) :=
  ⟨fun _ _ _ _ => WP_s (show ct 149 0 = some (.aload_n 0, 0, []) by decide +kernel) rfl,
  fun _ _ _ _ => WP_s (show ct 149 1 = some (.aload_n 0, 0, []) by decide +kernel) rfl,
  fun _ _ _ _ _ ht => WH_gI (show ct 149 2 = some (.getfield 113, 1, [12, 2, 0, 1275]) by decide +kernel) (by decide) ht,
  fun _ _ _ _ _ _ ht => WH_pI (show ct 149 5 = some (.putfield 120, 1, [12, 3, 0, 0, 1276]) by decide +kernel) ht,
  fun _ _ _ _ => WP_s (show ct 149 8 = some (.aload_n 0, 0, []) by decide +kernel) rfl,
  fun _ _ _ _ => WP_s (show ct 149 9 = some (.iconst 0, 0, []) by decide +kernel) rfl,
  fun _ _ _ _ _ _ ht => WH_pI (show ct 149 10 = some (.putfield 113, 1, [12, 2, 0, 0, 1275]) by decide +kernel) ht,
  fun _ _ _ _ => WP_s (show ct 149 13 = some (.aload_n 0, 0, []) by decide +kernel) rfl,
  fun _ _ _ _ => WP_s (show ct 149 14 = some (.iconst 0, 0, []) by decide +kernel) rfl,
  fun _ _ _ _ _ _ ht => WH_pI (show ct 149 15 = some (.putfield 123, 1, [12, 4, 0, 0, 1277]) by decide +kernel) ht,
  fun _ _ _ => WR_v (show ct 149 18 = some (.return_, 2, [0]) by decide +kernel)⟩
/-! 150: FewBowlsModel.isIn(III)Z; loop heads [] -/
set_option maxRecDepth 10000 in
theorem w150 : (∀ (x0 : Int32) (x1 : Int32) (x2 : Int32) (st : List Value) (h : AH) (Q : Option Value → AH → Prop), WP 150 0 [.int x0, .int x1, .int x2] (st) h Q ↔ WP 150 1 [.int x0, .int x1, .int x2] (.int x0 :: st) h Q) ∧
  (∀ (x0 : Int32) (x1 : Int32) (x2 : Int32) (st : List Value) (h : AH) (Q : Option Value → AH → Prop), WP 150 1 [.int x0, .int x1, .int x2] (st) h Q ↔ WP 150 2 [.int x0, .int x1, .int x2] (.int x1 :: st) h Q) ∧
  (∀ (x0 : Int32) (x1 : Int32) (x2 : Int32) (y0 : Int32) (y1 : Int32) (st : List Value) (h : AH) (Q : Option Value → AH → Prop), WP 150 2 [.int x0, .int x1, .int x2] (.int y0 :: .int y1 :: st) h Q ↔ ((y1 < y0 → WP 150 14 [.int x0, .int x1, .int x2] (st) h Q) ∧ (¬ y1 < y0 → WP 150 5 [.int x0, .int x1, .int x2] (st) h Q))) ∧
  (∀ (x0 : Int32) (x1 : Int32) (x2 : Int32) (st : List Value) (h : AH) (Q : Option Value → AH → Prop), WP 150 5 [.int x0, .int x1, .int x2] (st) h Q ↔ WP 150 6 [.int x0, .int x1, .int x2] (.int x0 :: st) h Q) ∧
  (∀ (x0 : Int32) (x1 : Int32) (x2 : Int32) (st : List Value) (h : AH) (Q : Option Value → AH → Prop), WP 150 6 [.int x0, .int x1, .int x2] (st) h Q ↔ WP 150 7 [.int x0, .int x1, .int x2] (.int x2 :: st) h Q) ∧
  (∀ (x0 : Int32) (x1 : Int32) (x2 : Int32) (y0 : Int32) (y1 : Int32) (st : List Value) (h : AH) (Q : Option Value → AH → Prop), WP 150 7 [.int x0, .int x1, .int x2] (.int y0 :: .int y1 :: st) h Q ↔ ((y0 < y1 → WP 150 14 [.int x0, .int x1, .int x2] (st) h Q) ∧ (¬ y0 < y1 → WP 150 10 [.int x0, .int x1, .int x2] (st) h Q))) ∧
  (∀ (x0 : Int32) (x1 : Int32) (x2 : Int32) (st : List Value) (h : AH) (Q : Option Value → AH → Prop), WP 150 10 [.int x0, .int x1, .int x2] (st) h Q ↔ WP 150 11 [.int x0, .int x1, .int x2] (.int (1) :: st) h Q) ∧
  (∀ (x0 : Int32) (x1 : Int32) (x2 : Int32) (st : List Value) (h : AH) (Q : Option Value → AH → Prop), WP 150 11 [.int x0, .int x1, .int x2] (st) h Q ↔ WP 150 15 [.int x0, .int x1, .int x2] (st) h Q) ∧
  (∀ (x0 : Int32) (x1 : Int32) (x2 : Int32) (st : List Value) (h : AH) (Q : Option Value → AH → Prop), WP 150 14 [.int x0, .int x1, .int x2] (st) h Q ↔ WP 150 15 [.int x0, .int x1, .int x2] (.int (0) :: st) h Q) ∧
  (∀ (x0 : Int32) (x1 : Int32) (x2 : Int32) (y0 : Int32) (h : AH) (Q : Option Value → AH → Prop) (hz : y0 = 0 ∨ y0 = 1), WP 150 15 [.int x0, .int x1, .int x2] ([.int y0]) h Q ↔ Q (some (.int y0)) h) :=
  ⟨fun _ _ _ _ _ _ => WP_s (show ct 150 0 = some (.iload_n 0, 0, []) by decide +kernel) rfl,
  fun _ _ _ _ _ _ => WP_s (show ct 150 1 = some (.iload_n 1, 0, []) by decide +kernel) rfl,
  fun _ _ _ _ _ _ _ _ => WI_lt (show ct 150 2 = some (.if_icmp .lt 12, 0, [14]) by decide +kernel) (by decide),
  fun _ _ _ _ _ _ => WP_s (show ct 150 5 = some (.iload_n 0, 0, []) by decide +kernel) rfl,
  fun _ _ _ _ _ _ => WP_s (show ct 150 6 = some (.iload_n 2, 0, []) by decide +kernel) rfl,
  fun _ _ _ _ _ _ _ _ => WI_gt (show ct 150 7 = some (.if_icmp .gt 7, 0, [14]) by decide +kernel) (by decide),
  fun _ _ _ _ _ _ => WP_s (show ct 150 10 = some (.iconst 1, 0, []) by decide +kernel) rfl,
  fun _ _ _ _ _ _ => WP_s (show ct 150 11 = some (.goto 4, 0, [15]) by decide +kernel) rfl,
  fun _ _ _ _ _ _ => WP_s (show ct 150 14 = some (.iconst 0, 0, []) by decide +kernel) rfl,
  fun _ _ _ _ _ _ hz => WR_z (show ct 150 15 = some (.ireturn, 2, [1]) by decide +kernel) hz⟩
/-! 151: FewBowlsModel.octet(I)I; loop heads [] -/
set_option maxRecDepth 10000 in
theorem w151 : (∀ (x0 : Nat) (x1 : Int32) (st : List Value) (h : AH) (Q : Option Value → AH → Prop), WP 151 0 [.ref x0, .int x1] (st) h Q ↔ WP 151 1 [.ref x0, .int x1] (.ref x0 :: st) h Q) ∧
  (∀ (x0 : Nat) (x1 : Int32) (y0 : Nat) (st : List Value) (h : AH) (Q : Option Value → AH → Prop) (ht : hT h y0 = 13), WP 151 1 [.ref x0, .int x1] (.ref y0 :: st) h Q ↔ WP 151 4 [.ref x0, .int x1] (.ref (hR h y0 1) :: st) h Q) ∧
  (∀ (x0 : Nat) (x1 : Int32) (st : List Value) (h : AH) (Q : Option Value → AH → Prop), WP 151 4 [.ref x0, .int x1] (st) h Q ↔ WP 151 5 [.ref x0, .int x1] (.int x1 :: st) h Q) ∧
  (∀ (x0 : Nat) (x1 : Int32) (y0 : Int32) (y1 : Nat) (st : List Value) (h : AH) (Q : Option Value → AH → Prop) (ht : hT h y1 = 101 ∨ hT h y1 = 102) (hi : inb y0 (hL h y1) = true), WP 151 5 [.ref x0, .int x1] (.int y0 :: .ref y1 :: st) h Q ↔ WP 151 6 [.ref x0, .int x1] (.int (hI h y1 y0.toNatClampNeg) :: st) h Q) ∧
  (∀ (x0 : Nat) (x1 : Int32) (st : List Value) (h : AH) (Q : Option Value → AH → Prop), WP 151 6 [.ref x0, .int x1] (st) h Q ↔ WP 151 9 [.ref x0, .int x1] (.int (255) :: st) h Q) ∧
  (∀ (x0 : Nat) (x1 : Int32) (y0 : Int32) (y1 : Int32) (st : List Value) (h : AH) (Q : Option Value → AH → Prop), WP 151 9 [.ref x0, .int x1] (.int y0 :: .int y1 :: st) h Q ↔ WP 151 10 [.ref x0, .int x1] (.int (y1 &&& y0) :: st) h Q) ∧
  (∀ (x0 : Nat) (x1 : Int32) (y0 : Int32) (h : AH) (Q : Option Value → AH → Prop), WP 151 10 [.ref x0, .int x1] ([.int y0]) h Q ↔ Q (some (.int y0)) h) :=
  ⟨fun _ _ _ _ _ => WP_s (show ct 151 0 = some (.aload_n 0, 0, []) by decide +kernel) rfl,
  fun _ _ _ _ _ _ ht => WH_gR (show ct 151 1 = some (.getfield 7, 1, [12, 1, 2, 1274]) by decide +kernel) ht,
  fun _ _ _ _ _ => WP_s (show ct 151 4 = some (.iload_n 1, 0, []) by decide +kernel) rfl,
  fun _ _ _ _ _ _ _ ht hi => WH_bald (show ct 151 5 = some (.baload, 1, []) by decide +kernel) ht hi,
  fun _ _ _ _ _ => WP_s (show ct 151 6 = some (.sipush 255, 0, []) by decide +kernel) rfl,
  fun _ _ _ _ _ _ _ => WP_s (show ct 151 9 = some (.iand, 0, []) by decide +kernel) rfl,
  fun _ _ _ _ _ => WR_i (show ct 151 10 = some (.ireturn, 2, [0]) by decide +kernel)⟩
/-! 152: FewBowlsModel.bits(I)I; loop heads [4] -/
theorem w152_4 : ∀ (x0 : Int32) (x1 : Int32) (x2 : Int32) (st : List Value) (h : AH) (Q : Option Value → AH → Prop), WP 152 4 [.int x0, .int x1, .int x2] (st) h Q ↔ WP 152 5 [.int x0, .int x1, .int x2] (.int x2 :: st) h Q := fun _ _ _ _ _ _ => WP_s (show ct 152 4 = some (.iload_n 2, 0, []) by decide +kernel) rfl
set_option maxRecDepth 10000 in
theorem w152 : (∀ (x0 : Int32) (st : List Value) (h : AH) (Q : Option Value → AH → Prop), WP 152 0 [.int x0, .retAddr 0, .retAddr 0] (st) h Q ↔ WP 152 1 [.int x0, .retAddr 0, .retAddr 0] (.int (0) :: st) h Q) ∧
  (∀ (x0 : Int32) (y0 : Int32) (st : List Value) (h : AH) (Q : Option Value → AH → Prop), WP 152 1 [.int x0, .retAddr 0, .retAddr 0] (.int y0 :: st) h Q ↔ WP 152 2 [.int x0, .int y0, .retAddr 0] (st) h Q) ∧
  (∀ (x0 : Int32) (x1 : Int32) (st : List Value) (h : AH) (Q : Option Value → AH → Prop), WP 152 2 [.int x0, .int x1, .retAddr 0] (st) h Q ↔ WP 152 3 [.int x0, .int x1, .retAddr 0] (.int x0 :: st) h Q) ∧
  (∀ (x0 : Int32) (x1 : Int32) (y0 : Int32) (st : List Value) (h : AH) (Q : Option Value → AH → Prop), WP 152 3 [.int x0, .int x1, .retAddr 0] (.int y0 :: st) h Q ↔ WP 152 4 [.int x0, .int x1, .int y0] (st) h Q) ∧
  (∀ (x0 : Int32) (x1 : Int32) (x2 : Int32) (y0 : Int32) (st : List Value) (h : AH) (Q : Option Value → AH → Prop), WP 152 5 [.int x0, .int x1, .int x2] (.int y0 :: st) h Q ↔ ((y0 = 0 → WP 152 20 [.int x0, .int x1, .int x2] (st) h Q) ∧ (¬ y0 = 0 → WP 152 8 [.int x0, .int x1, .int x2] (st) h Q))) ∧
  (∀ (x0 : Int32) (x1 : Int32) (x2 : Int32) (st : List Value) (h : AH) (Q : Option Value → AH → Prop), WP 152 8 [.int x0, .int x1, .int x2] (st) h Q ↔ WP 152 11 [.int x0, .int (x1 + (1)), .int x2] (st) h Q) ∧
  (∀ (x0 : Int32) (x1 : Int32) (x2 : Int32) (st : List Value) (h : AH) (Q : Option Value → AH → Prop), WP 152 11 [.int x0, .int x1, .int x2] (st) h Q ↔ WP 152 12 [.int x0, .int x1, .int x2] (.int x2 :: st) h Q) ∧
  (∀ (x0 : Int32) (x1 : Int32) (x2 : Int32) (st : List Value) (h : AH) (Q : Option Value → AH → Prop), WP 152 12 [.int x0, .int x1, .int x2] (st) h Q ↔ WP 152 13 [.int x0, .int x1, .int x2] (.int x2 :: st) h Q) ∧
  (∀ (x0 : Int32) (x1 : Int32) (x2 : Int32) (st : List Value) (h : AH) (Q : Option Value → AH → Prop), WP 152 13 [.int x0, .int x1, .int x2] (st) h Q ↔ WP 152 14 [.int x0, .int x1, .int x2] (.int (1) :: st) h Q) ∧
  (∀ (x0 : Int32) (x1 : Int32) (x2 : Int32) (y0 : Int32) (y1 : Int32) (st : List Value) (h : AH) (Q : Option Value → AH → Prop), WP 152 14 [.int x0, .int x1, .int x2] (.int y0 :: .int y1 :: st) h Q ↔ WP 152 15 [.int x0, .int x1, .int x2] (.int (y1 - y0) :: st) h Q) ∧
  (∀ (x0 : Int32) (x1 : Int32) (x2 : Int32) (y0 : Int32) (y1 : Int32) (st : List Value) (h : AH) (Q : Option Value → AH → Prop), WP 152 15 [.int x0, .int x1, .int x2] (.int y0 :: .int y1 :: st) h Q ↔ WP 152 16 [.int x0, .int x1, .int x2] (.int (y1 &&& y0) :: st) h Q) ∧
  (∀ (x0 : Int32) (x1 : Int32) (x2 : Int32) (y0 : Int32) (st : List Value) (h : AH) (Q : Option Value → AH → Prop), WP 152 16 [.int x0, .int x1, .int x2] (.int y0 :: st) h Q ↔ WP 152 17 [.int x0, .int x1, .int y0] (st) h Q) ∧
  (∀ (x0 : Int32) (x1 : Int32) (x2 : Int32) (st : List Value) (h : AH) (Q : Option Value → AH → Prop), WP 152 17 [.int x0, .int x1, .int x2] (st) h Q ↔ WP 152 4 [.int x0, .int x1, .int x2] (st) h Q) ∧
  (∀ (x0 : Int32) (x1 : Int32) (x2 : Int32) (st : List Value) (h : AH) (Q : Option Value → AH → Prop), WP 152 20 [.int x0, .int x1, .int x2] (st) h Q ↔ WP 152 21 [.int x0, .int x1, .int x2] (.int x1 :: st) h Q) ∧
  (∀ (x0 : Int32) (x1 : Int32) (x2 : Int32) (y0 : Int32) (h : AH) (Q : Option Value → AH → Prop), WP 152 21 [.int x0, .int x1, .int x2] ([.int y0]) h Q ↔ Q (some (.int y0)) h) :=
  ⟨fun _ _ _ _ => WP_s (show ct 152 0 = some (.iconst 0, 0, []) by decide +kernel) rfl,
  fun _ _ _ _ _ => WP_s (show ct 152 1 = some (.istore_n 1, 0, []) by decide +kernel) rfl,
  fun _ _ _ _ _ => WP_s (show ct 152 2 = some (.iload_n 0, 0, []) by decide +kernel) rfl,
  fun _ _ _ _ _ _ => WP_s (show ct 152 3 = some (.istore_n 2, 0, []) by decide +kernel) rfl,
  fun _ _ _ _ _ _ _ => WZ_eq (show ct 152 5 = some (.ifCond .eq 15, 0, [20]) by decide +kernel) (by decide),
  fun _ _ _ _ _ _ => WP_s (show ct 152 8 = some (.iinc 1 1, 0, []) by decide +kernel) rfl,
  fun _ _ _ _ _ _ => WP_s (show ct 152 11 = some (.iload_n 2, 0, []) by decide +kernel) rfl,
  fun _ _ _ _ _ _ => WP_s (show ct 152 12 = some (.iload_n 2, 0, []) by decide +kernel) rfl,
  fun _ _ _ _ _ _ => WP_s (show ct 152 13 = some (.iconst 1, 0, []) by decide +kernel) rfl,
  fun _ _ _ _ _ _ _ _ => WP_s (show ct 152 14 = some (.isub, 0, []) by decide +kernel) rfl,
  fun _ _ _ _ _ _ _ _ => WP_s (show ct 152 15 = some (.iand, 0, []) by decide +kernel) rfl,
  fun _ _ _ _ _ _ _ => WP_s (show ct 152 16 = some (.istore_n 2, 0, []) by decide +kernel) rfl,
  fun _ _ _ _ _ _ => WP_s (show ct 152 17 = some (.goto (-13), 0, [4]) by decide +kernel) rfl,
  fun _ _ _ _ _ _ => WP_s (show ct 152 20 = some (.iload_n 1, 0, []) by decide +kernel) rfl,
  fun _ _ _ _ _ _ => WR_i (show ct 152 21 = some (.ireturn, 2, [0]) by decide +kernel)⟩
/-! 153: FewBowlsModel.peek()I; loop heads [] -/
set_option maxRecDepth 10000 in
theorem w153 : (∀ (x0 : Nat) (st : List Value) (h : AH) (Q : Option Value → AH → Prop), WP 153 0 [.ref x0] (st) h Q ↔ WP 153 1 [.ref x0] (.ref x0 :: st) h Q) ∧
  (∀ (x0 : Nat) (y0 : Nat) (st : List Value) (h : AH) (Q : Option Value → AH → Prop) (ht : hT h y0 = 13), WP 153 1 [.ref x0] (.ref y0 :: st) h Q ↔ WP 153 4 [.ref x0] (.int (hI h y0 4) :: st) h Q) ∧
  (∀ (x0 : Nat) (st : List Value) (h : AH) (Q : Option Value → AH → Prop), WP 153 4 [.ref x0] (st) h Q ↔ WP 153 5 [.ref x0] (.ref x0 :: st) h Q) ∧
  (∀ (x0 : Nat) (y0 : Nat) (st : List Value) (h : AH) (Q : Option Value → AH → Prop) (ht : hT h y0 = 13), WP 153 5 [.ref x0] (.ref y0 :: st) h Q ↔ WP 153 8 [.ref x0] (.int (hI h y0 3) :: st) h Q) ∧
  (∀ (x0 : Nat) (y0 : Int32) (y1 : Int32) (st : List Value) (h : AH) (Q : Option Value → AH → Prop), WP 153 8 [.ref x0] (.int y0 :: .int y1 :: st) h Q ↔ ((y0 ≤ y1 → WP 153 27 [.ref x0] (st) h Q) ∧ (¬ y0 ≤ y1 → WP 153 11 [.ref x0] (st) h Q))) ∧
  (∀ (x0 : Nat) (st : List Value) (h : AH) (Q : Option Value → AH → Prop), WP 153 11 [.ref x0] (st) h Q ↔ WP 153 12 [.ref x0] (.ref x0 :: st) h Q) ∧
  (∀ (x0 : Nat) (y0 : Nat) (st : List Value) (h : AH) (Q : Option Value → AH → Prop) (ht : hT h y0 = 13), WP 153 12 [.ref x0] (.ref y0 :: st) h Q ↔ WP 153 15 [.ref x0] (.ref (hR h y0 1) :: st) h Q) ∧
  (∀ (x0 : Nat) (st : List Value) (h : AH) (Q : Option Value → AH → Prop), WP 153 15 [.ref x0] (st) h Q ↔ WP 153 16 [.ref x0] (.ref x0 :: st) h Q) ∧
  (∀ (x0 : Nat) (y0 : Nat) (st : List Value) (h : AH) (Q : Option Value → AH → Prop) (ht : hT h y0 = 13), WP 153 16 [.ref x0] (.ref y0 :: st) h Q ↔ WP 153 19 [.ref x0] (.int (hI h y0 4) :: st) h Q) ∧
  (∀ (x0 : Nat) (y0 : Int32) (y1 : Nat) (st : List Value) (h : AH) (Q : Option Value → AH → Prop) (ht : hT h y1 = 101 ∨ hT h y1 = 102) (hi : inb y0 (hL h y1) = true), WP 153 19 [.ref x0] (.int y0 :: .ref y1 :: st) h Q ↔ WP 153 20 [.ref x0] (.int (hI h y1 y0.toNatClampNeg) :: st) h Q) ∧
  (∀ (x0 : Nat) (st : List Value) (h : AH) (Q : Option Value → AH → Prop), WP 153 20 [.ref x0] (st) h Q ↔ WP 153 23 [.ref x0] (.int (255) :: st) h Q) ∧
  (∀ (x0 : Nat) (y0 : Int32) (y1 : Int32) (st : List Value) (h : AH) (Q : Option Value → AH → Prop), WP 153 23 [.ref x0] (.int y0 :: .int y1 :: st) h Q ↔ WP 153 24 [.ref x0] (.int (y1 &&& y0) :: st) h Q) ∧
  (∀ (x0 : Nat) (st : List Value) (h : AH) (Q : Option Value → AH → Prop), WP 153 24 [.ref x0] (st) h Q ↔ WP 153 28 [.ref x0] (st) h Q) ∧
  (∀ (x0 : Nat) (st : List Value) (h : AH) (Q : Option Value → AH → Prop), WP 153 27 [.ref x0] (st) h Q ↔ WP 153 28 [.ref x0] (.int (-1) :: st) h Q) ∧
  (∀ (x0 : Nat) (y0 : Int32) (h : AH) (Q : Option Value → AH → Prop), WP 153 28 [.ref x0] ([.int y0]) h Q ↔ Q (some (.int y0)) h) :=
  ⟨fun _ _ _ _ => WP_s (show ct 153 0 = some (.aload_n 0, 0, []) by decide +kernel) rfl,
  fun _ _ _ _ _ ht => WH_gI (show ct 153 1 = some (.getfield 123, 1, [12, 4, 0, 1277]) by decide +kernel) (by decide) ht,
  fun _ _ _ _ => WP_s (show ct 153 4 = some (.aload_n 0, 0, []) by decide +kernel) rfl,
  fun _ _ _ _ _ ht => WH_gI (show ct 153 5 = some (.getfield 120, 1, [12, 3, 0, 1276]) by decide +kernel) (by decide) ht,
  fun _ _ _ _ _ _ => WI_ge (show ct 153 8 = some (.if_icmp .ge 19, 0, [27]) by decide +kernel) (by decide),
  fun _ _ _ _ => WP_s (show ct 153 11 = some (.aload_n 0, 0, []) by decide +kernel) rfl,
  fun _ _ _ _ _ ht => WH_gR (show ct 153 12 = some (.getfield 7, 1, [12, 1, 2, 1274]) by decide +kernel) ht,
  fun _ _ _ _ => WP_s (show ct 153 15 = some (.aload_n 0, 0, []) by decide +kernel) rfl,
  fun _ _ _ _ _ ht => WH_gI (show ct 153 16 = some (.getfield 123, 1, [12, 4, 0, 1277]) by decide +kernel) (by decide) ht,
  fun _ _ _ _ _ _ ht hi => WH_bald (show ct 153 19 = some (.baload, 1, []) by decide +kernel) ht hi,
  fun _ _ _ _ => WP_s (show ct 153 20 = some (.sipush 255, 0, []) by decide +kernel) rfl,
  fun _ _ _ _ _ _ => WP_s (show ct 153 23 = some (.iand, 0, []) by decide +kernel) rfl,
  fun _ _ _ _ => WP_s (show ct 153 24 = some (.goto 4, 0, [28]) by decide +kernel) rfl,
  fun _ _ _ _ => WP_s (show ct 153 27 = some (.iconst (-1), 0, []) by decide +kernel) rfl,
  fun _ _ _ _ => WR_i (show ct 153 28 = some (.ireturn, 2, [0]) by decide +kernel)⟩
/-! 154: FewBowlsModel.isSmall(I)Z; loop heads [] -/
set_option maxRecDepth 10000 in
theorem w154 : (∀ (x0 : Int32) (st : List Value) (h : AH) (Q : Option Value → AH → Prop), WP 154 0 [.int x0] (st) h Q ↔ WP 154 1 [.int x0] (.int x0 :: st) h Q) ∧
  (∀ (x0 : Int32) (st : List Value) (h : AH) (Q : Option Value → AH → Prop), WP 154 1 [.int x0] (st) h Q ↔ WP 154 3 [.int x0] (.int (97) :: st) h Q) ∧
  (∀ (x0 : Int32) (y0 : Int32) (y1 : Int32) (st : List Value) (h : AH) (Q : Option Value → AH → Prop), WP 154 3 [.int x0] (.int y0 :: .int y1 :: st) h Q ↔ ((y1 < y0 → WP 154 16 [.int x0] (st) h Q) ∧ (¬ y1 < y0 → WP 154 6 [.int x0] (st) h Q))) ∧
  (∀ (x0 : Int32) (st : List Value) (h : AH) (Q : Option Value → AH → Prop), WP 154 6 [.int x0] (st) h Q ↔ WP 154 7 [.int x0] (.int x0 :: st) h Q) ∧
  (∀ (x0 : Int32) (st : List Value) (h : AH) (Q : Option Value → AH → Prop), WP 154 7 [.int x0] (st) h Q ↔ WP 154 9 [.int x0] (.int (122) :: st) h Q) ∧
  (∀ (x0 : Int32) (y0 : Int32) (y1 : Int32) (st : List Value) (h : AH) (Q : Option Value → AH → Prop), WP 154 9 [.int x0] (.int y0 :: .int y1 :: st) h Q ↔ ((y0 < y1 → WP 154 16 [.int x0] (st) h Q) ∧ (¬ y0 < y1 → WP 154 12 [.int x0] (st) h Q))) ∧
  (∀ (x0 : Int32) (st : List Value) (h : AH) (Q : Option Value → AH → Prop), WP 154 12 [.int x0] (st) h Q ↔ WP 154 13 [.int x0] (.int (1) :: st) h Q) ∧
  (∀ (x0 : Int32) (st : List Value) (h : AH) (Q : Option Value → AH → Prop), WP 154 13 [.int x0] (st) h Q ↔ WP 154 17 [.int x0] (st) h Q) ∧
  (∀ (x0 : Int32) (st : List Value) (h : AH) (Q : Option Value → AH → Prop), WP 154 16 [.int x0] (st) h Q ↔ WP 154 17 [.int x0] (.int (0) :: st) h Q) ∧
  (∀ (x0 : Int32) (y0 : Int32) (h : AH) (Q : Option Value → AH → Prop) (hz : y0 = 0 ∨ y0 = 1), WP 154 17 [.int x0] ([.int y0]) h Q ↔ Q (some (.int y0)) h) :=
  ⟨fun _ _ _ _ => WP_s (show ct 154 0 = some (.iload_n 0, 0, []) by decide +kernel) rfl,
  fun _ _ _ _ => WP_s (show ct 154 1 = some (.bipush 97, 0, []) by decide +kernel) rfl,
  fun _ _ _ _ _ _ => WI_lt (show ct 154 3 = some (.if_icmp .lt 13, 0, [16]) by decide +kernel) (by decide),
  fun _ _ _ _ => WP_s (show ct 154 6 = some (.iload_n 0, 0, []) by decide +kernel) rfl,
  fun _ _ _ _ => WP_s (show ct 154 7 = some (.bipush 122, 0, []) by decide +kernel) rfl,
  fun _ _ _ _ _ _ => WI_gt (show ct 154 9 = some (.if_icmp .gt 7, 0, [16]) by decide +kernel) (by decide),
  fun _ _ _ _ => WP_s (show ct 154 12 = some (.iconst 1, 0, []) by decide +kernel) rfl,
  fun _ _ _ _ => WP_s (show ct 154 13 = some (.goto 4, 0, [17]) by decide +kernel) rfl,
  fun _ _ _ _ => WP_s (show ct 154 16 = some (.iconst 0, 0, []) by decide +kernel) rfl,
  fun _ _ _ _ hz => WR_z (show ct 154 17 = some (.ireturn, 2, [1]) by decide +kernel) hz⟩
/-! 155: FewBowlsModel.isDigit(I)Z; loop heads [] -/
set_option maxRecDepth 10000 in
theorem w155 : (∀ (x0 : Int32) (st : List Value) (h : AH) (Q : Option Value → AH → Prop), WP 155 0 [.int x0] (st) h Q ↔ WP 155 1 [.int x0] (.int x0 :: st) h Q) ∧
  (∀ (x0 : Int32) (st : List Value) (h : AH) (Q : Option Value → AH → Prop), WP 155 1 [.int x0] (st) h Q ↔ WP 155 3 [.int x0] (.int (48) :: st) h Q) ∧
  (∀ (x0 : Int32) (y0 : Int32) (y1 : Int32) (st : List Value) (h : AH) (Q : Option Value → AH → Prop), WP 155 3 [.int x0] (.int y0 :: .int y1 :: st) h Q ↔ ((y1 < y0 → WP 155 16 [.int x0] (st) h Q) ∧ (¬ y1 < y0 → WP 155 6 [.int x0] (st) h Q))) ∧
  (∀ (x0 : Int32) (st : List Value) (h : AH) (Q : Option Value → AH → Prop), WP 155 6 [.int x0] (st) h Q ↔ WP 155 7 [.int x0] (.int x0 :: st) h Q) ∧
  (∀ (x0 : Int32) (st : List Value) (h : AH) (Q : Option Value → AH → Prop), WP 155 7 [.int x0] (st) h Q ↔ WP 155 9 [.int x0] (.int (57) :: st) h Q) ∧
  (∀ (x0 : Int32) (y0 : Int32) (y1 : Int32) (st : List Value) (h : AH) (Q : Option Value → AH → Prop), WP 155 9 [.int x0] (.int y0 :: .int y1 :: st) h Q ↔ ((y0 < y1 → WP 155 16 [.int x0] (st) h Q) ∧ (¬ y0 < y1 → WP 155 12 [.int x0] (st) h Q))) ∧
  (∀ (x0 : Int32) (st : List Value) (h : AH) (Q : Option Value → AH → Prop), WP 155 12 [.int x0] (st) h Q ↔ WP 155 13 [.int x0] (.int (1) :: st) h Q) ∧
  (∀ (x0 : Int32) (st : List Value) (h : AH) (Q : Option Value → AH → Prop), WP 155 13 [.int x0] (st) h Q ↔ WP 155 17 [.int x0] (st) h Q) ∧
  (∀ (x0 : Int32) (st : List Value) (h : AH) (Q : Option Value → AH → Prop), WP 155 16 [.int x0] (st) h Q ↔ WP 155 17 [.int x0] (.int (0) :: st) h Q) ∧
  (∀ (x0 : Int32) (y0 : Int32) (h : AH) (Q : Option Value → AH → Prop) (hz : y0 = 0 ∨ y0 = 1), WP 155 17 [.int x0] ([.int y0]) h Q ↔ Q (some (.int y0)) h) :=
  ⟨fun _ _ _ _ => WP_s (show ct 155 0 = some (.iload_n 0, 0, []) by decide +kernel) rfl,
  fun _ _ _ _ => WP_s (show ct 155 1 = some (.bipush 48, 0, []) by decide +kernel) rfl,
  fun _ _ _ _ _ _ => WI_lt (show ct 155 3 = some (.if_icmp .lt 13, 0, [16]) by decide +kernel) (by decide),
  fun _ _ _ _ => WP_s (show ct 155 6 = some (.iload_n 0, 0, []) by decide +kernel) rfl,
  fun _ _ _ _ => WP_s (show ct 155 7 = some (.bipush 57, 0, []) by decide +kernel) rfl,
  fun _ _ _ _ _ _ => WI_gt (show ct 155 9 = some (.if_icmp .gt 7, 0, [16]) by decide +kernel) (by decide),
  fun _ _ _ _ => WP_s (show ct 155 12 = some (.iconst 1, 0, []) by decide +kernel) rfl,
  fun _ _ _ _ => WP_s (show ct 155 13 = some (.goto 4, 0, [17]) by decide +kernel) rfl,
  fun _ _ _ _ => WP_s (show ct 155 16 = some (.iconst 0, 0, []) by decide +kernel) rfl,
  fun _ _ _ _ hz => WR_z (show ct 155 17 = some (.ireturn, 2, [1]) by decide +kernel) hz⟩
/-! 156: FewBowlsModel.next()V; loop heads [0, 154] -/
theorem w156_0 : ∀ (x0 : Nat) (st : List Value) (h : AH) (Q : Option Value → AH → Prop), WP 156 0 [.ref x0, .retAddr 0, .retAddr 0, .retAddr 0] (st) h Q ↔ WP 156 1 [.ref x0, .retAddr 0, .retAddr 0, .retAddr 0] (.ref x0 :: st) h Q := fun _ _ _ _ => WP_s (show ct 156 0 = some (.aload_n 0, 0, []) by decide +kernel) rfl
theorem w156_154 : ∀ (x0 : Nat) (x1 : Int32) (x2 : Int32) (x3 : Int32) (st : List Value) (h : AH) (Q : Option Value → AH → Prop), WP 156 154 [.ref x0, .int x1, .int x2, .int x3] (st) h Q ↔ WP 156 155 [.ref x0, .int x1, .int x2, .int x3] (.ref x0 :: st) h Q := fun _ _ _ _ _ _ _ => WP_s (show ct 156 154 = some (.aload_n 0, 0, []) by decide +kernel) rfl
set_option maxRecDepth 10000 in
theorem w156_a : (∀ (x0 : Nat) (y0 : Nat) (h : AH) (Q : Option Value → AH → Prop) (ht : hT h y0 = 13), WP 156 1 [.ref x0, .retAddr 0, .retAddr 0, .retAddr 0] ([.ref y0]) h Q ↔ WPM 153 [.ref y0] h (fun r h' => WP 156 4 [.ref x0, .retAddr 0, .retAddr 0, .retAddr 0] (r.toList ++ []) h' Q)) ∧
  (∀ (x0 : Nat) (st : List Value) (h : AH) (Q : Option Value → AH → Prop), WP 156 4 [.ref x0, .retAddr 0, .retAddr 0, .retAddr 0] (st) h Q ↔ WP 156 6 [.ref x0, .retAddr 0, .retAddr 0, .retAddr 0] (.int (32) :: st) h Q) ∧
  (∀ (x0 : Nat) (y0 : Int32) (y1 : Int32) (st : List Value) (h : AH) (Q : Option Value → AH → Prop), WP 156 6 [.ref x0, .retAddr 0, .retAddr 0, .retAddr 0] (.int y0 :: .int y1 :: st) h Q ↔ ((y1 = y0 → WP 156 18 [.ref x0, .retAddr 0, .retAddr 0, .retAddr 0] (st) h Q) ∧ (¬ y1 = y0 → WP 156 9 [.ref x0, .retAddr 0, .retAddr 0, .retAddr 0] (st) h Q))) ∧
  (∀ (x0 : Nat) (st : List Value) (h : AH) (Q : Option Value → AH → Prop), WP 156 9 [.ref x0, .retAddr 0, .retAddr 0, .retAddr 0] (st) h Q ↔ WP 156 10 [.ref x0, .retAddr 0, .retAddr 0, .retAddr 0] (.ref x0 :: st) h Q) ∧
  (∀ (x0 : Nat) (y0 : Nat) (h : AH) (Q : Option Value → AH → Prop) (ht : hT h y0 = 13), WP 156 10 [.ref x0, .retAddr 0, .retAddr 0, .retAddr 0] ([.ref y0]) h Q ↔ WPM 153 [.ref y0] h (fun r h' => WP 156 13 [.ref x0, .retAddr 0, .retAddr 0, .retAddr 0] (r.toList ++ []) h' Q)) ∧
  (∀ (x0 : Nat) (st : List Value) (h : AH) (Q : Option Value → AH → Prop), WP 156 13 [.ref x0, .retAddr 0, .retAddr 0, .retAddr 0] (st) h Q ↔ WP 156 15 [.ref x0, .retAddr 0, .retAddr 0, .retAddr 0] (.int (10) :: st) h Q) ∧
  (∀ (x0 : Nat) (y0 : Int32) (y1 : Int32) (st : List Value) (h : AH) (Q : Option Value → AH → Prop), WP 156 15 [.ref x0, .retAddr 0, .retAddr 0, .retAddr 0] (.int y0 :: .int y1 :: st) h Q ↔ ((¬ y1 = y0 → WP 156 31 [.ref x0, .retAddr 0, .retAddr 0, .retAddr 0] (st) h Q) ∧ (y1 = y0 → WP 156 18 [.ref x0, .retAddr 0, .retAddr 0, .retAddr 0] (st) h Q))) ∧
  (∀ (x0 : Nat) (st : List Value) (h : AH) (Q : Option Value → AH → Prop), WP 156 18 [.ref x0, .retAddr 0, .retAddr 0, .retAddr 0] (st) h Q ↔ WP 156 19 [.ref x0, .retAddr 0, .retAddr 0, .retAddr 0] (.ref x0 :: st) h Q) ∧
  (∀ (x0 : Nat) (y0 : Nat) (st : List Value) (h : AH) (Q : Option Value → AH → Prop), WP 156 19 [.ref x0, .retAddr 0, .retAddr 0, .retAddr 0] (.ref y0 :: st) h Q ↔ WP 156 20 [.ref x0, .retAddr 0, .retAddr 0, .retAddr 0] (.ref y0 :: .ref y0 :: st) h Q) ∧
  (∀ (x0 : Nat) (y0 : Nat) (st : List Value) (h : AH) (Q : Option Value → AH → Prop) (ht : hT h y0 = 13), WP 156 20 [.ref x0, .retAddr 0, .retAddr 0, .retAddr 0] (.ref y0 :: st) h Q ↔ WP 156 23 [.ref x0, .retAddr 0, .retAddr 0, .retAddr 0] (.int (hI h y0 4) :: st) h Q) ∧
  (∀ (x0 : Nat) (st : List Value) (h : AH) (Q : Option Value → AH → Prop), WP 156 23 [.ref x0, .retAddr 0, .retAddr 0, .retAddr 0] (st) h Q ↔ WP 156 24 [.ref x0, .retAddr 0, .retAddr 0, .retAddr 0] (.int (1) :: st) h Q) ∧
  (∀ (x0 : Nat) (y0 : Int32) (y1 : Int32) (st : List Value) (h : AH) (Q : Option Value → AH → Prop), WP 156 24 [.ref x0, .retAddr 0, .retAddr 0, .retAddr 0] (.int y0 :: .int y1 :: st) h Q ↔ WP 156 25 [.ref x0, .retAddr 0, .retAddr 0, .retAddr 0] (.int (y1 + y0) :: st) h Q) ∧
  (∀ (x0 : Nat) (y0 : Int32) (y1 : Nat) (st : List Value) (h : AH) (Q : Option Value → AH → Prop) (ht : hT h y1 = 13), WP 156 25 [.ref x0, .retAddr 0, .retAddr 0, .retAddr 0] (.int y0 :: .ref y1 :: st) h Q ↔ WP 156 28 [.ref x0, .retAddr 0, .retAddr 0, .retAddr 0] (st) (sI h y1 4 y0) Q) ∧
  (∀ (x0 : Nat) (st : List Value) (h : AH) (Q : Option Value → AH → Prop), WP 156 28 [.ref x0, .retAddr 0, .retAddr 0, .retAddr 0] (st) h Q ↔ WP 156 0 [.ref x0, .retAddr 0, .retAddr 0, .retAddr 0] (st) h Q) ∧
  (∀ (x0 : Nat) (st : List Value) (h : AH) (Q : Option Value → AH → Prop), WP 156 31 [.ref x0, .retAddr 0, .retAddr 0, .retAddr 0] (st) h Q ↔ WP 156 32 [.ref x0, .retAddr 0, .retAddr 0, .retAddr 0] (.ref x0 :: st) h Q) ∧
  (∀ (x0 : Nat) (st : List Value) (h : AH) (Q : Option Value → AH → Prop), WP 156 32 [.ref x0, .retAddr 0, .retAddr 0, .retAddr 0] (st) h Q ↔ WP 156 33 [.ref x0, .retAddr 0, .retAddr 0, .retAddr 0] (.ref x0 :: st) h Q) ∧
  (∀ (x0 : Nat) (y0 : Nat) (st : List Value) (h : AH) (Q : Option Value → AH → Prop) (ht : hT h y0 = 13), WP 156 33 [.ref x0, .retAddr 0, .retAddr 0, .retAddr 0] (.ref y0 :: st) h Q ↔ WP 156 36 [.ref x0, .retAddr 0, .retAddr 0, .retAddr 0] (.int (hI h y0 4) :: st) h Q) ∧
  (∀ (x0 : Nat) (y0 : Int32) (y1 : Nat) (st : List Value) (h : AH) (Q : Option Value → AH → Prop) (ht : hT h y1 = 13), WP 156 36 [.ref x0, .retAddr 0, .retAddr 0, .retAddr 0] (.int y0 :: .ref y1 :: st) h Q ↔ WP 156 39 [.ref x0, .retAddr 0, .retAddr 0, .retAddr 0] (st) (sI h y1 12 y0) Q) ∧
  (∀ (x0 : Nat) (st : List Value) (h : AH) (Q : Option Value → AH → Prop), WP 156 39 [.ref x0, .retAddr 0, .retAddr 0, .retAddr 0] (st) h Q ↔ WP 156 40 [.ref x0, .retAddr 0, .retAddr 0, .retAddr 0] (.ref x0 :: st) h Q) ∧
  (∀ (x0 : Nat) (st : List Value) (h : AH) (Q : Option Value → AH → Prop), WP 156 40 [.ref x0, .retAddr 0, .retAddr 0, .retAddr 0] (st) h Q ↔ WP 156 41 [.ref x0, .retAddr 0, .retAddr 0, .retAddr 0] (.int (0) :: st) h Q) ∧
  (∀ (x0 : Nat) (y0 : Int32) (y1 : Nat) (st : List Value) (h : AH) (Q : Option Value → AH → Prop) (ht : hT h y1 = 13), WP 156 41 [.ref x0, .retAddr 0, .retAddr 0, .retAddr 0] (.int y0 :: .ref y1 :: st) h Q ↔ WP 156 44 [.ref x0, .retAddr 0, .retAddr 0, .retAddr 0] (st) (sI h y1 13 y0) Q) ∧
  (∀ (x0 : Nat) (st : List Value) (h : AH) (Q : Option Value → AH → Prop), WP 156 44 [.ref x0, .retAddr 0, .retAddr 0, .retAddr 0] (st) h Q ↔ WP 156 45 [.ref x0, .retAddr 0, .retAddr 0, .retAddr 0] (.ref x0 :: st) h Q) ∧
  (∀ (x0 : Nat) (y0 : Nat) (st : List Value) (h : AH) (Q : Option Value → AH → Prop) (ht : hT h y0 = 13), WP 156 45 [.ref x0, .retAddr 0, .retAddr 0, .retAddr 0] (.ref y0 :: st) h Q ↔ WP 156 48 [.ref x0, .retAddr 0, .retAddr 0, .retAddr 0] (.int (hI h y0 3) :: st) h Q) ∧
  (∀ (x0 : Nat) (st : List Value) (h : AH) (Q : Option Value → AH → Prop), WP 156 48 [.ref x0, .retAddr 0, .retAddr 0, .retAddr 0] (st) h Q ↔ WP 156 51 [.ref x0, .retAddr 0, .retAddr 0, .retAddr 0] (.int (500) :: st) h Q) ∧
  (∀ (x0 : Nat) (y0 : Int32) (y1 : Int32) (st : List Value) (h : AH) (Q : Option Value → AH → Prop), WP 156 51 [.ref x0, .retAddr 0, .retAddr 0, .retAddr 0] (.int y0 :: .int y1 :: st) h Q ↔ ((y1 ≤ y0 → WP 156 77 [.ref x0, .retAddr 0, .retAddr 0, .retAddr 0] (st) h Q) ∧ (¬ y1 ≤ y0 → WP 156 54 [.ref x0, .retAddr 0, .retAddr 0, .retAddr 0] (st) h Q))) ∧
  (∀ (x0 : Nat) (st : List Value) (h : AH) (Q : Option Value → AH → Prop), WP 156 54 [.ref x0, .retAddr 0, .retAddr 0, .retAddr 0] (st) h Q ↔ WP 156 55 [.ref x0, .retAddr 0, .retAddr 0, .retAddr 0] (.ref x0 :: st) h Q) ∧
  (∀ (x0 : Nat) (y0 : Nat) (st : List Value) (h : AH) (Q : Option Value → AH → Prop) (ht : hT h y0 = 13), WP 156 55 [.ref x0, .retAddr 0, .retAddr 0, .retAddr 0] (.ref y0 :: st) h Q ↔ WP 156 58 [.ref x0, .retAddr 0, .retAddr 0, .retAddr 0] (.int (hI h y0 4) :: st) h Q) ∧
  (∀ (x0 : Nat) (st : List Value) (h : AH) (Q : Option Value → AH → Prop), WP 156 58 [.ref x0, .retAddr 0, .retAddr 0, .retAddr 0] (st) h Q ↔ WP 156 61 [.ref x0, .retAddr 0, .retAddr 0, .retAddr 0] (.int (500) :: st) h Q) ∧
  (∀ (x0 : Nat) (y0 : Int32) (y1 : Int32) (st : List Value) (h : AH) (Q : Option Value → AH → Prop), WP 156 61 [.ref x0, .retAddr 0, .retAddr 0, .retAddr 0] (.int y0 :: .int y1 :: st) h Q ↔ ((y1 < y0 → WP 156 77 [.ref x0, .retAddr 0, .retAddr 0, .retAddr 0] (st) h Q) ∧ (¬ y1 < y0 → WP 156 64 [.ref x0, .retAddr 0, .retAddr 0, .retAddr 0] (st) h Q))) ∧
  (∀ (x0 : Nat) (st : List Value) (h : AH) (Q : Option Value → AH → Prop), WP 156 64 [.ref x0, .retAddr 0, .retAddr 0, .retAddr 0] (st) h Q ↔ WP 156 65 [.ref x0, .retAddr 0, .retAddr 0, .retAddr 0] (.ref x0 :: st) h Q) ∧
  (∀ (x0 : Nat) (st : List Value) (h : AH) (Q : Option Value → AH → Prop), WP 156 65 [.ref x0, .retAddr 0, .retAddr 0, .retAddr 0] (st) h Q ↔ WP 156 68 [.ref x0, .retAddr 0, .retAddr 0, .retAddr 0] (.int (500) :: st) h Q) ∧
  (∀ (x0 : Nat) (y0 : Int32) (y1 : Nat) (st : List Value) (h : AH) (Q : Option Value → AH → Prop) (ht : hT h y1 = 13), WP 156 68 [.ref x0, .retAddr 0, .retAddr 0, .retAddr 0] (.int y0 :: .ref y1 :: st) h Q ↔ WP 156 71 [.ref x0, .retAddr 0, .retAddr 0, .retAddr 0] (st) (sI h y1 12 y0) Q) ∧
  (∀ (x0 : Nat) (st : List Value) (h : AH) (Q : Option Value → AH → Prop), WP 156 71 [.ref x0, .retAddr 0, .retAddr 0, .retAddr 0] (st) h Q ↔ WP 156 72 [.ref x0, .retAddr 0, .retAddr 0, .retAddr 0] (.ref x0 :: st) h Q) ∧
  (∀ (x0 : Nat) (st : List Value) (h : AH) (Q : Option Value → AH → Prop), WP 156 72 [.ref x0, .retAddr 0, .retAddr 0, .retAddr 0] (st) h Q ↔ WP 156 73 [.ref x0, .retAddr 0, .retAddr 0, .retAddr 0] (.int (4) :: st) h Q) ∧
  (∀ (x0 : Nat) (y0 : Int32) (y1 : Nat) (st : List Value) (h : AH) (Q : Option Value → AH → Prop) (ht : hT h y1 = 13), WP 156 73 [.ref x0, .retAddr 0, .retAddr 0, .retAddr 0] (.int y0 :: .ref y1 :: st) h Q ↔ WP 156 76 [.ref x0, .retAddr 0, .retAddr 0, .retAddr 0] (st) (sI h y1 11 y0) Q) ∧
  (∀ (x0 : Nat) (h : AH) (Q : Option Value → AH → Prop), WP 156 76 [.ref x0, .retAddr 0, .retAddr 0, .retAddr 0] ([]) h Q ↔ Q none h) ∧
  (∀ (x0 : Nat) (st : List Value) (h : AH) (Q : Option Value → AH → Prop), WP 156 77 [.ref x0, .retAddr 0, .retAddr 0, .retAddr 0] (st) h Q ↔ WP 156 78 [.ref x0, .retAddr 0, .retAddr 0, .retAddr 0] (.ref x0 :: st) h Q) ∧
  (∀ (x0 : Nat) (y0 : Nat) (h : AH) (Q : Option Value → AH → Prop) (ht : hT h y0 = 13), WP 156 78 [.ref x0, .retAddr 0, .retAddr 0, .retAddr 0] ([.ref y0]) h Q ↔ WPM 153 [.ref y0] h (fun r h' => WP 156 81 [.ref x0, .retAddr 0, .retAddr 0, .retAddr 0] (r.toList ++ []) h' Q)) ∧
  (∀ (x0 : Nat) (y0 : Int32) (st : List Value) (h : AH) (Q : Option Value → AH → Prop), WP 156 81 [.ref x0, .retAddr 0, .retAddr 0, .retAddr 0] (.int y0 :: st) h Q ↔ WP 156 82 [.ref x0, .int y0, .retAddr 0, .retAddr 0] (st) h Q) ∧
  (∀ (x0 : Nat) (x1 : Int32) (st : List Value) (h : AH) (Q : Option Value → AH → Prop), WP 156 82 [.ref x0, .int x1, .retAddr 0, .retAddr 0] (st) h Q ↔ WP 156 83 [.ref x0, .int x1, .retAddr 0, .retAddr 0] (.int x1 :: st) h Q) :=
  ⟨fun _ _ _ _ ht => WC_1 (show ct 156 1 = some (.invokevirtual 126, 3, [153, 1, 1, 13, 0, 1474, 1476, 59]) by decide +kernel) (Nat.le_of_ble_eq_true rfl) (Nat.le_of_ble_eq_true rfl) rfl rfl ht,
  fun _ _ _ _ => WP_s (show ct 156 4 = some (.bipush 32, 0, []) by decide +kernel) rfl,
  fun _ _ _ _ _ _ => WI_eq (show ct 156 6 = some (.if_icmp .eq 12, 0, [18]) by decide +kernel) (by decide),
  fun _ _ _ _ => WP_s (show ct 156 9 = some (.aload_n 0, 0, []) by decide +kernel) rfl,
  fun _ _ _ _ ht => WC_1 (show ct 156 10 = some (.invokevirtual 126, 3, [153, 1, 1, 13, 0, 1474, 1476, 59]) by decide +kernel) (Nat.le_of_ble_eq_true rfl) (Nat.le_of_ble_eq_true rfl) rfl rfl ht,
  fun _ _ _ _ => WP_s (show ct 156 13 = some (.bipush 10, 0, []) by decide +kernel) rfl,
  fun _ _ _ _ _ _ => WI_ne (show ct 156 15 = some (.if_icmp .ne 16, 0, [31]) by decide +kernel) (by decide),
  fun _ _ _ _ => WP_s (show ct 156 18 = some (.aload_n 0, 0, []) by decide +kernel) rfl,
  fun _ _ _ _ _ => WP_s (show ct 156 19 = some (.dup, 0, []) by decide +kernel) rfl,
  fun _ _ _ _ _ ht => WH_gI (show ct 156 20 = some (.getfield 123, 1, [12, 4, 0, 1277]) by decide +kernel) (by decide) ht,
  fun _ _ _ _ => WP_s (show ct 156 23 = some (.iconst 1, 0, []) by decide +kernel) rfl,
  fun _ _ _ _ _ _ => WP_s (show ct 156 24 = some (.iadd, 0, []) by decide +kernel) rfl,
  fun _ _ _ _ _ _ ht => WH_pI (show ct 156 25 = some (.putfield 123, 1, [12, 4, 0, 0, 1277]) by decide +kernel) ht,
  fun _ _ _ _ => WP_s (show ct 156 28 = some (.goto (-28), 0, [0]) by decide +kernel) rfl,
  fun _ _ _ _ => WP_s (show ct 156 31 = some (.aload_n 0, 0, []) by decide +kernel) rfl,
  fun _ _ _ _ => WP_s (show ct 156 32 = some (.aload_n 0, 0, []) by decide +kernel) rfl,
  fun _ _ _ _ _ ht => WH_gI (show ct 156 33 = some (.getfield 123, 1, [12, 4, 0, 1277]) by decide +kernel) (by decide) ht,
  fun _ _ _ _ _ _ ht => WH_pI (show ct 156 36 = some (.putfield 130, 1, [12, 12, 0, 0, 1285]) by decide +kernel) ht,
  fun _ _ _ _ => WP_s (show ct 156 39 = some (.aload_n 0, 0, []) by decide +kernel) rfl,
  fun _ _ _ _ => WP_s (show ct 156 40 = some (.iconst 0, 0, []) by decide +kernel) rfl,
  fun _ _ _ _ _ _ ht => WH_pI (show ct 156 41 = some (.putfield 133, 1, [12, 13, 0, 0, 1286]) by decide +kernel) ht,
  fun _ _ _ _ => WP_s (show ct 156 44 = some (.aload_n 0, 0, []) by decide +kernel) rfl,
  fun _ _ _ _ _ ht => WH_gI (show ct 156 45 = some (.getfield 120, 1, [12, 3, 0, 1276]) by decide +kernel) (by decide) ht,
  fun _ _ _ _ => WP_s (show ct 156 48 = some (.sipush 500, 0, []) by decide +kernel) rfl,
  fun _ _ _ _ _ _ => WI_le (show ct 156 51 = some (.if_icmp .le 26, 0, [77]) by decide +kernel) (by decide),
  fun _ _ _ _ => WP_s (show ct 156 54 = some (.aload_n 0, 0, []) by decide +kernel) rfl,
  fun _ _ _ _ _ ht => WH_gI (show ct 156 55 = some (.getfield 123, 1, [12, 4, 0, 1277]) by decide +kernel) (by decide) ht,
  fun _ _ _ _ => WP_s (show ct 156 58 = some (.sipush 500, 0, []) by decide +kernel) rfl,
  fun _ _ _ _ _ _ => WI_lt (show ct 156 61 = some (.if_icmp .lt 16, 0, [77]) by decide +kernel) (by decide),
  fun _ _ _ _ => WP_s (show ct 156 64 = some (.aload_n 0, 0, []) by decide +kernel) rfl,
  fun _ _ _ _ => WP_s (show ct 156 65 = some (.sipush 500, 0, []) by decide +kernel) rfl,
  fun _ _ _ _ _ _ ht => WH_pI (show ct 156 68 = some (.putfield 130, 1, [12, 12, 0, 0, 1285]) by decide +kernel) ht,
  fun _ _ _ _ => WP_s (show ct 156 71 = some (.aload_n 0, 0, []) by decide +kernel) rfl,
  fun _ _ _ _ => WP_s (show ct 156 72 = some (.iconst 4, 0, []) by decide +kernel) rfl,
  fun _ _ _ _ _ _ ht => WH_pI (show ct 156 73 = some (.putfield 136, 1, [12, 11, 0, 0, 1284]) by decide +kernel) ht,
  fun _ _ _ => WR_v (show ct 156 76 = some (.return_, 2, [0]) by decide +kernel),
  fun _ _ _ _ => WP_s (show ct 156 77 = some (.aload_n 0, 0, []) by decide +kernel) rfl,
  fun _ _ _ _ ht => WC_1 (show ct 156 78 = some (.invokevirtual 126, 3, [153, 1, 1, 13, 0, 1474, 1476, 59]) by decide +kernel) (Nat.le_of_ble_eq_true rfl) (Nat.le_of_ble_eq_true rfl) rfl rfl ht,
  fun _ _ _ _ _ => WP_s (show ct 156 81 = some (.istore_n 1, 0, []) by decide +kernel) rfl,
  fun _ _ _ _ _ => WP_s (show ct 156 82 = some (.iload_n 1, 0, []) by decide +kernel) rfl⟩
set_option maxRecDepth 10000 in
theorem w156_b : (∀ (x0 : Nat) (x1 : Int32) (y0 : Int32) (st : List Value) (h : AH) (Q : Option Value → AH → Prop), WP 156 83 [.ref x0, .int x1, .retAddr 0, .retAddr 0] (.int y0 :: st) h Q ↔ ((0 ≤ y0 → WP 156 92 [.ref x0, .int x1, .retAddr 0, .retAddr 0] (st) h Q) ∧ (¬ 0 ≤ y0 → WP 156 86 [.ref x0, .int x1, .retAddr 0, .retAddr 0] (st) h Q))) ∧
  (∀ (x0 : Nat) (x1 : Int32) (st : List Value) (h : AH) (Q : Option Value → AH → Prop), WP 156 86 [.ref x0, .int x1, .retAddr 0, .retAddr 0] (st) h Q ↔ WP 156 87 [.ref x0, .int x1, .retAddr 0, .retAddr 0] (.ref x0 :: st) h Q) ∧
  (∀ (x0 : Nat) (x1 : Int32) (st : List Value) (h : AH) (Q : Option Value → AH → Prop), WP 156 87 [.ref x0, .int x1, .retAddr 0, .retAddr 0] (st) h Q ↔ WP 156 88 [.ref x0, .int x1, .retAddr 0, .retAddr 0] (.int (0) :: st) h Q) ∧
  (∀ (x0 : Nat) (x1 : Int32) (y0 : Int32) (y1 : Nat) (st : List Value) (h : AH) (Q : Option Value → AH → Prop) (ht : hT h y1 = 13), WP 156 88 [.ref x0, .int x1, .retAddr 0, .retAddr 0] (.int y0 :: .ref y1 :: st) h Q ↔ WP 156 91 [.ref x0, .int x1, .retAddr 0, .retAddr 0] (st) (sI h y1 11 y0) Q) ∧
  (∀ (x0 : Nat) (x1 : Int32) (h : AH) (Q : Option Value → AH → Prop), WP 156 91 [.ref x0, .int x1, .retAddr 0, .retAddr 0] ([]) h Q ↔ Q none h) ∧
  (∀ (x0 : Nat) (x1 : Int32) (st : List Value) (h : AH) (Q : Option Value → AH → Prop), WP 156 92 [.ref x0, .int x1, .retAddr 0, .retAddr 0] (st) h Q ↔ WP 156 93 [.ref x0, .int x1, .retAddr 0, .retAddr 0] (.int x1 :: st) h Q) ∧
  (∀ (x0 : Nat) (x1 : Int32) (y0 : Int32) (h : AH) (Q : Option Value → AH → Prop), WP 156 93 [.ref x0, .int x1, .retAddr 0, .retAddr 0] ([.int y0]) h Q ↔ WPM 154 [.int y0] h (fun r h' => WP 156 96 [.ref x0, .int x1, .retAddr 0, .retAddr 0] (r.toList ++ []) h' Q)) ∧
  (∀ (x0 : Nat) (x1 : Int32) (y0 : Int32) (st : List Value) (h : AH) (Q : Option Value → AH → Prop), WP 156 96 [.ref x0, .int x1, .retAddr 0, .retAddr 0] (.int y0 :: st) h Q ↔ ((¬ y0 = 0 → WP 156 137 [.ref x0, .int x1, .retAddr 0, .retAddr 0] (st) h Q) ∧ (y0 = 0 → WP 156 99 [.ref x0, .int x1, .retAddr 0, .retAddr 0] (st) h Q))) ∧
  (∀ (x0 : Nat) (x1 : Int32) (st : List Value) (h : AH) (Q : Option Value → AH → Prop), WP 156 99 [.ref x0, .int x1, .retAddr 0, .retAddr 0] (st) h Q ↔ WP 156 100 [.ref x0, .int x1, .retAddr 0, .retAddr 0] (.int x1 :: st) h Q) ∧
  (∀ (x0 : Nat) (x1 : Int32) (y0 : Int32) (h : AH) (Q : Option Value → AH → Prop), WP 156 100 [.ref x0, .int x1, .retAddr 0, .retAddr 0] ([.int y0]) h Q ↔ WPM 155 [.int y0] h (fun r h' => WP 156 103 [.ref x0, .int x1, .retAddr 0, .retAddr 0] (r.toList ++ []) h' Q)) ∧
  (∀ (x0 : Nat) (x1 : Int32) (y0 : Int32) (st : List Value) (h : AH) (Q : Option Value → AH → Prop), WP 156 103 [.ref x0, .int x1, .retAddr 0, .retAddr 0] (.int y0 :: st) h Q ↔ ((¬ y0 = 0 → WP 156 137 [.ref x0, .int x1, .retAddr 0, .retAddr 0] (st) h Q) ∧ (y0 = 0 → WP 156 106 [.ref x0, .int x1, .retAddr 0, .retAddr 0] (st) h Q))) ∧
  (∀ (x0 : Nat) (x1 : Int32) (st : List Value) (h : AH) (Q : Option Value → AH → Prop), WP 156 106 [.ref x0, .int x1, .retAddr 0, .retAddr 0] (st) h Q ↔ WP 156 107 [.ref x0, .int x1, .retAddr 0, .retAddr 0] (.ref x0 :: st) h Q) ∧
  (∀ (x0 : Nat) (x1 : Int32) (st : List Value) (h : AH) (Q : Option Value → AH → Prop), WP 156 107 [.ref x0, .int x1, .retAddr 0, .retAddr 0] (st) h Q ↔ WP 156 108 [.ref x0, .int x1, .retAddr 0, .retAddr 0] (.int x1 :: st) h Q) ∧
  (∀ (x0 : Nat) (x1 : Int32) (st : List Value) (h : AH) (Q : Option Value → AH → Prop), WP 156 108 [.ref x0, .int x1, .retAddr 0, .retAddr 0] (st) h Q ↔ WP 156 110 [.ref x0, .int x1, .retAddr 0, .retAddr 0] (.int (59) :: st) h Q) ∧
  (∀ (x0 : Nat) (x1 : Int32) (y0 : Int32) (y1 : Int32) (st : List Value) (h : AH) (Q : Option Value → AH → Prop), WP 156 110 [.ref x0, .int x1, .retAddr 0, .retAddr 0] (.int y0 :: .int y1 :: st) h Q ↔ ((¬ y1 = y0 → WP 156 117 [.ref x0, .int x1, .retAddr 0, .retAddr 0] (st) h Q) ∧ (y1 = y0 → WP 156 113 [.ref x0, .int x1, .retAddr 0, .retAddr 0] (st) h Q))) ∧
  (∀ (x0 : Nat) (x1 : Int32) (st : List Value) (h : AH) (Q : Option Value → AH → Prop), WP 156 113 [.ref x0, .int x1, .retAddr 0, .retAddr 0] (st) h Q ↔ WP 156 114 [.ref x0, .int x1, .retAddr 0, .retAddr 0] (.int (3) :: st) h Q) ∧
  (∀ (x0 : Nat) (x1 : Int32) (st : List Value) (h : AH) (Q : Option Value → AH → Prop), WP 156 114 [.ref x0, .int x1, .retAddr 0, .retAddr 0] (st) h Q ↔ WP 156 118 [.ref x0, .int x1, .retAddr 0, .retAddr 0] (st) h Q) ∧
  (∀ (x0 : Nat) (x1 : Int32) (st : List Value) (h : AH) (Q : Option Value → AH → Prop), WP 156 117 [.ref x0, .int x1, .retAddr 0, .retAddr 0] (st) h Q ↔ WP 156 118 [.ref x0, .int x1, .retAddr 0, .retAddr 0] (.int (4) :: st) h Q) ∧
  (∀ (x0 : Nat) (x1 : Int32) (y0 : Int32) (y1 : Nat) (st : List Value) (h : AH) (Q : Option Value → AH → Prop) (ht : hT h y1 = 13), WP 156 118 [.ref x0, .int x1, .retAddr 0, .retAddr 0] (.int y0 :: .ref y1 :: st) h Q ↔ WP 156 121 [.ref x0, .int x1, .retAddr 0, .retAddr 0] (st) (sI h y1 11 y0) Q) ∧
  (∀ (x0 : Nat) (x1 : Int32) (st : List Value) (h : AH) (Q : Option Value → AH → Prop), WP 156 121 [.ref x0, .int x1, .retAddr 0, .retAddr 0] (st) h Q ↔ WP 156 122 [.ref x0, .int x1, .retAddr 0, .retAddr 0] (.ref x0 :: st) h Q) ∧
  (∀ (x0 : Nat) (x1 : Int32) (st : List Value) (h : AH) (Q : Option Value → AH → Prop), WP 156 122 [.ref x0, .int x1, .retAddr 0, .retAddr 0] (st) h Q ↔ WP 156 123 [.ref x0, .int x1, .retAddr 0, .retAddr 0] (.int x1 :: st) h Q) ∧
  (∀ (x0 : Nat) (x1 : Int32) (y0 : Int32) (y1 : Nat) (st : List Value) (h : AH) (Q : Option Value → AH → Prop) (ht : hT h y1 = 13), WP 156 123 [.ref x0, .int x1, .retAddr 0, .retAddr 0] (.int y0 :: .ref y1 :: st) h Q ↔ WP 156 126 [.ref x0, .int x1, .retAddr 0, .retAddr 0] (st) (sI h y1 14 y0) Q) ∧
  (∀ (x0 : Nat) (x1 : Int32) (st : List Value) (h : AH) (Q : Option Value → AH → Prop), WP 156 126 [.ref x0, .int x1, .retAddr 0, .retAddr 0] (st) h Q ↔ WP 156 127 [.ref x0, .int x1, .retAddr 0, .retAddr 0] (.ref x0 :: st) h Q) ∧
  (∀ (x0 : Nat) (x1 : Int32) (y0 : Nat) (st : List Value) (h : AH) (Q : Option Value → AH → Prop), WP 156 127 [.ref x0, .int x1, .retAddr 0, .retAddr 0] (.ref y0 :: st) h Q ↔ WP 156 128 [.ref x0, .int x1, .retAddr 0, .retAddr 0] (.ref y0 :: .ref y0 :: st) h Q) ∧
  (∀ (x0 : Nat) (x1 : Int32) (y0 : Nat) (st : List Value) (h : AH) (Q : Option Value → AH → Prop) (ht : hT h y0 = 13), WP 156 128 [.ref x0, .int x1, .retAddr 0, .retAddr 0] (.ref y0 :: st) h Q ↔ WP 156 131 [.ref x0, .int x1, .retAddr 0, .retAddr 0] (.int (hI h y0 4) :: st) h Q) ∧
  (∀ (x0 : Nat) (x1 : Int32) (st : List Value) (h : AH) (Q : Option Value → AH → Prop), WP 156 131 [.ref x0, .int x1, .retAddr 0, .retAddr 0] (st) h Q ↔ WP 156 132 [.ref x0, .int x1, .retAddr 0, .retAddr 0] (.int (1) :: st) h Q) ∧
  (∀ (x0 : Nat) (x1 : Int32) (y0 : Int32) (y1 : Int32) (st : List Value) (h : AH) (Q : Option Value → AH → Prop), WP 156 132 [.ref x0, .int x1, .retAddr 0, .retAddr 0] (.int y0 :: .int y1 :: st) h Q ↔ WP 156 133 [.ref x0, .int x1, .retAddr 0, .retAddr 0] (.int (y1 + y0) :: st) h Q) ∧
  (∀ (x0 : Nat) (x1 : Int32) (y0 : Int32) (y1 : Nat) (st : List Value) (h : AH) (Q : Option Value → AH → Prop) (ht : hT h y1 = 13), WP 156 133 [.ref x0, .int x1, .retAddr 0, .retAddr 0] (.int y0 :: .ref y1 :: st) h Q ↔ WP 156 136 [.ref x0, .int x1, .retAddr 0, .retAddr 0] (st) (sI h y1 4 y0) Q) ∧
  (∀ (x0 : Nat) (x1 : Int32) (h : AH) (Q : Option Value → AH → Prop), WP 156 136 [.ref x0, .int x1, .retAddr 0, .retAddr 0] ([]) h Q ↔ Q none h) ∧
  (∀ (x0 : Nat) (x1 : Int32) (st : List Value) (h : AH) (Q : Option Value → AH → Prop), WP 156 137 [.ref x0, .int x1, .retAddr 0, .retAddr 0] (st) h Q ↔ WP 156 138 [.ref x0, .int x1, .retAddr 0, .retAddr 0] (.int x1 :: st) h Q) ∧
  (∀ (x0 : Nat) (x1 : Int32) (y0 : Int32) (h : AH) (Q : Option Value → AH → Prop), WP 156 138 [.ref x0, .int x1, .retAddr 0, .retAddr 0] ([.int y0]) h Q ↔ WPM 154 [.int y0] h (fun r h' => WP 156 141 [.ref x0, .int x1, .retAddr 0, .retAddr 0] (r.toList ++ []) h' Q)) ∧
  (∀ (x0 : Nat) (x1 : Int32) (y0 : Int32) (st : List Value) (h : AH) (Q : Option Value → AH → Prop), WP 156 141 [.ref x0, .int x1, .retAddr 0, .retAddr 0] (.int y0 :: st) h Q ↔ WP 156 142 [.ref x0, .int x1, .int y0, .retAddr 0] (st) h Q) ∧
  (∀ (x0 : Nat) (x1 : Int32) (x2 : Int32) (st : List Value) (h : AH) (Q : Option Value → AH → Prop), WP 156 142 [.ref x0, .int x1, .int x2, .retAddr 0] (st) h Q ↔ WP 156 143 [.ref x0, .int x1, .int x2, .retAddr 0] (.int (1) :: st) h Q) ∧
  (∀ (x0 : Nat) (x1 : Int32) (x2 : Int32) (y0 : Int32) (st : List Value) (h : AH) (Q : Option Value → AH → Prop), WP 156 143 [.ref x0, .int x1, .int x2, .retAddr 0] (.int y0 :: st) h Q ↔ WP 156 144 [.ref x0, .int x1, .int x2, .int y0] (st) h Q) ∧
  (∀ (x0 : Nat) (x1 : Int32) (x2 : Int32) (x3 : Int32) (st : List Value) (h : AH) (Q : Option Value → AH → Prop), WP 156 144 [.ref x0, .int x1, .int x2, .int x3] (st) h Q ↔ WP 156 145 [.ref x0, .int x1, .int x2, .int x3] (.ref x0 :: st) h Q) ∧
  (∀ (x0 : Nat) (x1 : Int32) (x2 : Int32) (x3 : Int32) (st : List Value) (h : AH) (Q : Option Value → AH → Prop), WP 156 145 [.ref x0, .int x1, .int x2, .int x3] (st) h Q ↔ WP 156 146 [.ref x0, .int x1, .int x2, .int x3] (.long 0 :: st) h Q) ∧
  (∀ (x0 : Nat) (x1 : Int32) (x2 : Int32) (x3 : Int32) (y0 : Int64) (y1 : Nat) (st : List Value) (h : AH) (Q : Option Value → AH → Prop) (ht : hT h y1 = 13), WP 156 146 [.ref x0, .int x1, .int x2, .int x3] (.long y0 :: .ref y1 :: st) h Q ↔ WP 156 149 [.ref x0, .int x1, .int x2, .int x3] (st) (sJ h y1 17 y0) Q) ∧
  (∀ (x0 : Nat) (x1 : Int32) (x2 : Int32) (x3 : Int32) (st : List Value) (h : AH) (Q : Option Value → AH → Prop), WP 156 149 [.ref x0, .int x1, .int x2, .int x3] (st) h Q ↔ WP 156 150 [.ref x0, .int x1, .int x2, .int x3] (.ref x0 :: st) h Q) ∧
  (∀ (x0 : Nat) (x1 : Int32) (x2 : Int32) (x3 : Int32) (st : List Value) (h : AH) (Q : Option Value → AH → Prop), WP 156 150 [.ref x0, .int x1, .int x2, .int x3] (st) h Q ↔ WP 156 151 [.ref x0, .int x1, .int x2, .int x3] (.int (0) :: st) h Q) ∧
  (∀ (x0 : Nat) (x1 : Int32) (x2 : Int32) (x3 : Int32) (y0 : Int32) (y1 : Nat) (st : List Value) (h : AH) (Q : Option Value → AH → Prop) (ht : hT h y1 = 13), WP 156 151 [.ref x0, .int x1, .int x2, .int x3] (.int y0 :: .ref y1 :: st) h Q ↔ WP 156 154 [.ref x0, .int x1, .int x2, .int x3] (st) (sI h y1 14 y0) Q) :=
  ⟨fun _ _ _ _ _ _ => WZ_ge (show ct 156 83 = some (.ifCond .ge 9, 0, [92]) by decide +kernel) (by decide),
  fun _ _ _ _ _ => WP_s (show ct 156 86 = some (.aload_n 0, 0, []) by decide +kernel) rfl,
  fun _ _ _ _ _ => WP_s (show ct 156 87 = some (.iconst 0, 0, []) by decide +kernel) rfl,
  fun _ _ _ _ _ _ _ ht => WH_pI (show ct 156 88 = some (.putfield 136, 1, [12, 11, 0, 0, 1284]) by decide +kernel) ht,
  fun _ _ _ _ => WR_v (show ct 156 91 = some (.return_, 2, [0]) by decide +kernel),
  fun _ _ _ _ _ => WP_s (show ct 156 92 = some (.iload_n 1, 0, []) by decide +kernel) rfl,
  fun _ _ _ _ _ => WC_0 (show ct 156 93 = some (.invokestatic 139, 3, [154, 1, 0, 0, 0, 1478, 1479, 0]) by decide +kernel) (Nat.le_of_ble_eq_true rfl) (Nat.le_of_ble_eq_true rfl) rfl rfl,
  fun _ _ _ _ _ _ => WZ_ne (show ct 156 96 = some (.ifCond .ne 41, 0, [137]) by decide +kernel) (by decide),
  fun _ _ _ _ _ => WP_s (show ct 156 99 = some (.iload_n 1, 0, []) by decide +kernel) rfl,
  fun _ _ _ _ _ => WC_0 (show ct 156 100 = some (.invokestatic 143, 3, [155, 1, 0, 0, 0, 1481, 1482, 0]) by decide +kernel) (Nat.le_of_ble_eq_true rfl) (Nat.le_of_ble_eq_true rfl) rfl rfl,
  fun _ _ _ _ _ _ => WZ_ne (show ct 156 103 = some (.ifCond .ne 34, 0, [137]) by decide +kernel) (by decide),
  fun _ _ _ _ _ => WP_s (show ct 156 106 = some (.aload_n 0, 0, []) by decide +kernel) rfl,
  fun _ _ _ _ _ => WP_s (show ct 156 107 = some (.iload_n 1, 0, []) by decide +kernel) rfl,
  fun _ _ _ _ _ => WP_s (show ct 156 108 = some (.bipush 59, 0, []) by decide +kernel) rfl,
  fun _ _ _ _ _ _ _ => WI_ne (show ct 156 110 = some (.if_icmp .ne 7, 0, [117]) by decide +kernel) (by decide),
  fun _ _ _ _ _ => WP_s (show ct 156 113 = some (.iconst 3, 0, []) by decide +kernel) rfl,
  fun _ _ _ _ _ => WP_s (show ct 156 114 = some (.goto 4, 0, [118]) by decide +kernel) rfl,
  fun _ _ _ _ _ => WP_s (show ct 156 117 = some (.iconst 4, 0, []) by decide +kernel) rfl,
  fun _ _ _ _ _ _ _ ht => WH_pI (show ct 156 118 = some (.putfield 136, 1, [12, 11, 0, 0, 1284]) by decide +kernel) ht,
  fun _ _ _ _ _ => WP_s (show ct 156 121 = some (.aload_n 0, 0, []) by decide +kernel) rfl,
  fun _ _ _ _ _ => WP_s (show ct 156 122 = some (.iload_n 1, 0, []) by decide +kernel) rfl,
  fun _ _ _ _ _ _ _ ht => WH_pI (show ct 156 123 = some (.putfield 146, 1, [12, 14, 0, 0, 1287]) by decide +kernel) ht,
  fun _ _ _ _ _ => WP_s (show ct 156 126 = some (.aload_n 0, 0, []) by decide +kernel) rfl,
  fun _ _ _ _ _ _ => WP_s (show ct 156 127 = some (.dup, 0, []) by decide +kernel) rfl,
  fun _ _ _ _ _ _ ht => WH_gI (show ct 156 128 = some (.getfield 123, 1, [12, 4, 0, 1277]) by decide +kernel) (by decide) ht,
  fun _ _ _ _ _ => WP_s (show ct 156 131 = some (.iconst 1, 0, []) by decide +kernel) rfl,
  fun _ _ _ _ _ _ _ => WP_s (show ct 156 132 = some (.iadd, 0, []) by decide +kernel) rfl,
  fun _ _ _ _ _ _ _ ht => WH_pI (show ct 156 133 = some (.putfield 123, 1, [12, 4, 0, 0, 1277]) by decide +kernel) ht,
  fun _ _ _ _ => WR_v (show ct 156 136 = some (.return_, 2, [0]) by decide +kernel),
  fun _ _ _ _ _ => WP_s (show ct 156 137 = some (.iload_n 1, 0, []) by decide +kernel) rfl,
  fun _ _ _ _ _ => WC_0 (show ct 156 138 = some (.invokestatic 139, 3, [154, 1, 0, 0, 0, 1478, 1479, 0]) by decide +kernel) (Nat.le_of_ble_eq_true rfl) (Nat.le_of_ble_eq_true rfl) rfl rfl,
  fun _ _ _ _ _ _ => WP_s (show ct 156 141 = some (.istore_n 2, 0, []) by decide +kernel) rfl,
  fun _ _ _ _ _ _ => WP_s (show ct 156 142 = some (.iconst 1, 0, []) by decide +kernel) rfl,
  fun _ _ _ _ _ _ _ => WP_s (show ct 156 143 = some (.istore_n 3, 0, []) by decide +kernel) rfl,
  fun _ _ _ _ _ _ _ => WP_s (show ct 156 144 = some (.aload_n 0, 0, []) by decide +kernel) rfl,
  fun _ _ _ _ _ _ _ => WP_s (show ct 156 145 = some (.lconst 0, 0, []) by decide +kernel) rfl,
  fun _ _ _ _ _ _ _ _ _ ht => WH_pJ (show ct 156 146 = some (.putfield 149, 1, [12, 17, 1, 0, 1290]) by decide +kernel) ht,
  fun _ _ _ _ _ _ _ => WP_s (show ct 156 149 = some (.aload_n 0, 0, []) by decide +kernel) rfl,
  fun _ _ _ _ _ _ _ => WP_s (show ct 156 150 = some (.iconst 0, 0, []) by decide +kernel) rfl,
  fun _ _ _ _ _ _ _ _ _ ht => WH_pI (show ct 156 151 = some (.putfield 146, 1, [12, 14, 0, 0, 1287]) by decide +kernel) ht⟩
set_option maxRecDepth 10000 in
theorem w156_c : (∀ (x0 : Nat) (x1 : Int32) (x2 : Int32) (x3 : Int32) (y0 : Nat) (h : AH) (Q : Option Value → AH → Prop) (ht : hT h y0 = 13), WP 156 155 [.ref x0, .int x1, .int x2, .int x3] ([.ref y0]) h Q ↔ WPM 153 [.ref y0] h (fun r h' => WP 156 158 [.ref x0, .int x1, .int x2, .int x3] (r.toList ++ []) h' Q)) ∧
  (∀ (x0 : Nat) (x1 : Int32) (x2 : Int32) (x3 : Int32) (y0 : Int32) (h : AH) (Q : Option Value → AH → Prop), WP 156 158 [.ref x0, .int x1, .int x2, .int x3] ([.int y0]) h Q ↔ WPM 154 [.int y0] h (fun r h' => WP 156 161 [.ref x0, .int x1, .int x2, .int x3] (r.toList ++ []) h' Q)) ∧
  (∀ (x0 : Nat) (x1 : Int32) (x2 : Int32) (x3 : Int32) (y0 : Int32) (st : List Value) (h : AH) (Q : Option Value → AH → Prop), WP 156 161 [.ref x0, .int x1, .int x2, .int x3] (.int y0 :: st) h Q ↔ ((¬ y0 = 0 → WP 156 174 [.ref x0, .int x1, .int x2, .int x3] (st) h Q) ∧ (y0 = 0 → WP 156 164 [.ref x0, .int x1, .int x2, .int x3] (st) h Q))) ∧
  (∀ (x0 : Nat) (x1 : Int32) (x2 : Int32) (x3 : Int32) (st : List Value) (h : AH) (Q : Option Value → AH → Prop), WP 156 164 [.ref x0, .int x1, .int x2, .int x3] (st) h Q ↔ WP 156 165 [.ref x0, .int x1, .int x2, .int x3] (.ref x0 :: st) h Q) ∧
  (∀ (x0 : Nat) (x1 : Int32) (x2 : Int32) (x3 : Int32) (y0 : Nat) (h : AH) (Q : Option Value → AH → Prop) (ht : hT h y0 = 13), WP 156 165 [.ref x0, .int x1, .int x2, .int x3] ([.ref y0]) h Q ↔ WPM 153 [.ref y0] h (fun r h' => WP 156 168 [.ref x0, .int x1, .int x2, .int x3] (r.toList ++ []) h' Q)) ∧
  (∀ (x0 : Nat) (x1 : Int32) (x2 : Int32) (x3 : Int32) (y0 : Int32) (h : AH) (Q : Option Value → AH → Prop), WP 156 168 [.ref x0, .int x1, .int x2, .int x3] ([.int y0]) h Q ↔ WPM 155 [.int y0] h (fun r h' => WP 156 171 [.ref x0, .int x1, .int x2, .int x3] (r.toList ++ []) h' Q)) ∧
  (∀ (x0 : Nat) (x1 : Int32) (x2 : Int32) (x3 : Int32) (y0 : Int32) (st : List Value) (h : AH) (Q : Option Value → AH → Prop), WP 156 171 [.ref x0, .int x1, .int x2, .int x3] (.int y0 :: st) h Q ↔ ((y0 = 0 → WP 156 271 [.ref x0, .int x1, .int x2, .int x3] (st) h Q) ∧ (¬ y0 = 0 → WP 156 174 [.ref x0, .int x1, .int x2, .int x3] (st) h Q))) ∧
  (∀ (x0 : Nat) (x1 : Int32) (x2 : Int32) (x3 : Int32) (st : List Value) (h : AH) (Q : Option Value → AH → Prop), WP 156 174 [.ref x0, .int x1, .int x2, .int x3] (st) h Q ↔ WP 156 175 [.ref x0, .int x1, .int x2, .int x3] (.int x3 :: st) h Q) ∧
  (∀ (x0 : Nat) (x1 : Int32) (x2 : Int32) (x3 : Int32) (y0 : Int32) (st : List Value) (h : AH) (Q : Option Value → AH → Prop), WP 156 175 [.ref x0, .int x1, .int x2, .int x3] (.int y0 :: st) h Q ↔ ((y0 = 0 → WP 156 193 [.ref x0, .int x1, .int x2, .int x3] (st) h Q) ∧ (¬ y0 = 0 → WP 156 178 [.ref x0, .int x1, .int x2, .int x3] (st) h Q))) ∧
  (∀ (x0 : Nat) (x1 : Int32) (x2 : Int32) (x3 : Int32) (st : List Value) (h : AH) (Q : Option Value → AH → Prop), WP 156 178 [.ref x0, .int x1, .int x2, .int x3] (st) h Q ↔ WP 156 179 [.ref x0, .int x1, .int x2, .int x3] (.ref x0 :: st) h Q) ∧
  (∀ (x0 : Nat) (x1 : Int32) (x2 : Int32) (x3 : Int32) (y0 : Nat) (h : AH) (Q : Option Value → AH → Prop) (ht : hT h y0 = 13), WP 156 179 [.ref x0, .int x1, .int x2, .int x3] ([.ref y0]) h Q ↔ WPM 153 [.ref y0] h (fun r h' => WP 156 182 [.ref x0, .int x1, .int x2, .int x3] (r.toList ++ []) h' Q)) ∧
  (∀ (x0 : Nat) (x1 : Int32) (x2 : Int32) (x3 : Int32) (y0 : Int32) (h : AH) (Q : Option Value → AH → Prop), WP 156 182 [.ref x0, .int x1, .int x2, .int x3] ([.int y0]) h Q ↔ WPM 154 [.int y0] h (fun r h' => WP 156 185 [.ref x0, .int x1, .int x2, .int x3] (r.toList ++ []) h' Q)) ∧
  (∀ (x0 : Nat) (x1 : Int32) (x2 : Int32) (x3 : Int32) (st : List Value) (h : AH) (Q : Option Value → AH → Prop), WP 156 185 [.ref x0, .int x1, .int x2, .int x3] (st) h Q ↔ WP 156 186 [.ref x0, .int x1, .int x2, .int x3] (.int x2 :: st) h Q) ∧
  (∀ (x0 : Nat) (x1 : Int32) (x2 : Int32) (x3 : Int32) (y0 : Int32) (y1 : Int32) (st : List Value) (h : AH) (Q : Option Value → AH → Prop), WP 156 186 [.ref x0, .int x1, .int x2, .int x3] (.int y0 :: .int y1 :: st) h Q ↔ ((¬ y1 = y0 → WP 156 193 [.ref x0, .int x1, .int x2, .int x3] (st) h Q) ∧ (y1 = y0 → WP 156 189 [.ref x0, .int x1, .int x2, .int x3] (st) h Q))) ∧
  (∀ (x0 : Nat) (x1 : Int32) (x2 : Int32) (x3 : Int32) (st : List Value) (h : AH) (Q : Option Value → AH → Prop), WP 156 189 [.ref x0, .int x1, .int x2, .int x3] (st) h Q ↔ WP 156 190 [.ref x0, .int x1, .int x2, .int x3] (.int (1) :: st) h Q) ∧
  (∀ (x0 : Nat) (x1 : Int32) (x2 : Int32) (x3 : Int32) (st : List Value) (h : AH) (Q : Option Value → AH → Prop), WP 156 190 [.ref x0, .int x1, .int x2, .int x3] (st) h Q ↔ WP 156 194 [.ref x0, .int x1, .int x2, .int x3] (st) h Q) ∧
  (∀ (x0 : Nat) (x1 : Int32) (x2 : Int32) (x3 : Int32) (st : List Value) (h : AH) (Q : Option Value → AH → Prop), WP 156 193 [.ref x0, .int x1, .int x2, .int x3] (st) h Q ↔ WP 156 194 [.ref x0, .int x1, .int x2, .int x3] (.int (0) :: st) h Q) ∧
  (∀ (x0 : Nat) (x1 : Int32) (x2 : Int32) (x3 : Int32) (y0 : Int32) (st : List Value) (h : AH) (Q : Option Value → AH → Prop), WP 156 194 [.ref x0, .int x1, .int x2, .int x3] (.int y0 :: st) h Q ↔ WP 156 195 [.ref x0, .int x1, .int x2, .int y0] (st) h Q) ∧
  (∀ (x0 : Nat) (x1 : Int32) (x2 : Int32) (x3 : Int32) (st : List Value) (h : AH) (Q : Option Value → AH → Prop), WP 156 195 [.ref x0, .int x1, .int x2, .int x3] (st) h Q ↔ WP 156 196 [.ref x0, .int x1, .int x2, .int x3] (.ref x0 :: st) h Q) ∧
  (∀ (x0 : Nat) (x1 : Int32) (x2 : Int32) (x3 : Int32) (y0 : Nat) (st : List Value) (h : AH) (Q : Option Value → AH → Prop) (ht : hT h y0 = 13), WP 156 196 [.ref x0, .int x1, .int x2, .int x3] (.ref y0 :: st) h Q ↔ WP 156 199 [.ref x0, .int x1, .int x2, .int x3] (.int (hI h y0 13) :: st) h Q) ∧
  (∀ (x0 : Nat) (x1 : Int32) (x2 : Int32) (x3 : Int32) (st : List Value) (h : AH) (Q : Option Value → AH → Prop), WP 156 199 [.ref x0, .int x1, .int x2, .int x3] (st) h Q ↔ WP 156 201 [.ref x0, .int x1, .int x2, .int x3] (.int (6) :: st) h Q) ∧
  (∀ (x0 : Nat) (x1 : Int32) (x2 : Int32) (x3 : Int32) (y0 : Int32) (y1 : Int32) (st : List Value) (h : AH) (Q : Option Value → AH → Prop), WP 156 201 [.ref x0, .int x1, .int x2, .int x3] (.int y0 :: .int y1 :: st) h Q ↔ ((y0 ≤ y1 → WP 156 221 [.ref x0, .int x1, .int x2, .int x3] (st) h Q) ∧ (¬ y0 ≤ y1 → WP 156 204 [.ref x0, .int x1, .int x2, .int x3] (st) h Q))) ∧
  (∀ (x0 : Nat) (x1 : Int32) (x2 : Int32) (x3 : Int32) (st : List Value) (h : AH) (Q : Option Value → AH → Prop), WP 156 204 [.ref x0, .int x1, .int x2, .int x3] (st) h Q ↔ WP 156 205 [.ref x0, .int x1, .int x2, .int x3] (.ref x0 :: st) h Q) ∧
  (∀ (x0 : Nat) (x1 : Int32) (x2 : Int32) (x3 : Int32) (st : List Value) (h : AH) (Q : Option Value → AH → Prop), WP 156 205 [.ref x0, .int x1, .int x2, .int x3] (st) h Q ↔ WP 156 206 [.ref x0, .int x1, .int x2, .int x3] (.ref x0 :: st) h Q) ∧
  (∀ (x0 : Nat) (x1 : Int32) (x2 : Int32) (x3 : Int32) (y0 : Nat) (st : List Value) (h : AH) (Q : Option Value → AH → Prop) (ht : hT h y0 = 13), WP 156 206 [.ref x0, .int x1, .int x2, .int x3] (.ref y0 :: st) h Q ↔ WP 156 209 [.ref x0, .int x1, .int x2, .int x3] (.long (hJ h y0 17) :: st) h Q) ∧
  (∀ (x0 : Nat) (x1 : Int32) (x2 : Int32) (x3 : Int32) (st : List Value) (h : AH) (Q : Option Value → AH → Prop), WP 156 209 [.ref x0, .int x1, .int x2, .int x3] (st) h Q ↔ WP 156 211 [.ref x0, .int x1, .int x2, .int x3] (.int (8) :: st) h Q) ∧
  (∀ (x0 : Nat) (x1 : Int32) (x2 : Int32) (x3 : Int32) (y0 : Int32) (y1 : Int64) (st : List Value) (h : AH) (Q : Option Value → AH → Prop), WP 156 211 [.ref x0, .int x1, .int x2, .int x3] (.int y0 :: .long y1 :: st) h Q ↔ WP 156 212 [.ref x0, .int x1, .int x2, .int x3] (.long (y1 <<< (y0.toInt64 &&& 63)) :: st) h Q) ∧
  (∀ (x0 : Nat) (x1 : Int32) (x2 : Int32) (x3 : Int32) (st : List Value) (h : AH) (Q : Option Value → AH → Prop), WP 156 212 [.ref x0, .int x1, .int x2, .int x3] (st) h Q ↔ WP 156 213 [.ref x0, .int x1, .int x2, .int x3] (.ref x0 :: st) h Q) ∧
  (∀ (x0 : Nat) (x1 : Int32) (x2 : Int32) (x3 : Int32) (y2 : Nat) (y1 : Int64) (y0 : Nat) (h : AH) (Q : Option Value → AH → Prop) (ht : hT h y0 = 13), WP 156 213 [.ref x0, .int x1, .int x2, .int x3] ([.ref y0, .long y1, .ref y2]) h Q ↔ WPM 153 [.ref y0] h (fun r h' => WP 156 216 [.ref x0, .int x1, .int x2, .int x3] (r.toList ++ [.long y1, .ref y2]) h' Q)) ∧
  (∀ (x0 : Nat) (x1 : Int32) (x2 : Int32) (x3 : Int32) (y0 : Int32) (st : List Value) (h : AH) (Q : Option Value → AH → Prop), WP 156 216 [.ref x0, .int x1, .int x2, .int x3] (.int y0 :: st) h Q ↔ WP 156 217 [.ref x0, .int x1, .int x2, .int x3] (.long y0.toInt64 :: st) h Q) ∧
  (∀ (x0 : Nat) (x1 : Int32) (x2 : Int32) (x3 : Int32) (y0 : Int64) (y1 : Int64) (st : List Value) (h : AH) (Q : Option Value → AH → Prop), WP 156 217 [.ref x0, .int x1, .int x2, .int x3] (.long y0 :: .long y1 :: st) h Q ↔ WP 156 218 [.ref x0, .int x1, .int x2, .int x3] (.long (y1 ||| y0) :: st) h Q) ∧
  (∀ (x0 : Nat) (x1 : Int32) (x2 : Int32) (x3 : Int32) (y0 : Int64) (y1 : Nat) (st : List Value) (h : AH) (Q : Option Value → AH → Prop) (ht : hT h y1 = 13), WP 156 218 [.ref x0, .int x1, .int x2, .int x3] (.long y0 :: .ref y1 :: st) h Q ↔ WP 156 221 [.ref x0, .int x1, .int x2, .int x3] (st) (sJ h y1 17 y0) Q) ∧
  (∀ (x0 : Nat) (x1 : Int32) (x2 : Int32) (x3 : Int32) (st : List Value) (h : AH) (Q : Option Value → AH → Prop), WP 156 221 [.ref x0, .int x1, .int x2, .int x3] (st) h Q ↔ WP 156 222 [.ref x0, .int x1, .int x2, .int x3] (.ref x0 :: st) h Q) ∧
  (∀ (x0 : Nat) (x1 : Int32) (x2 : Int32) (x3 : Int32) (y0 : Nat) (st : List Value) (h : AH) (Q : Option Value → AH → Prop) (ht : hT h y0 = 13), WP 156 222 [.ref x0, .int x1, .int x2, .int x3] (.ref y0 :: st) h Q ↔ WP 156 225 [.ref x0, .int x1, .int x2, .int x3] (.int (hI h y0 13) :: st) h Q) ∧
  (∀ (x0 : Nat) (x1 : Int32) (x2 : Int32) (x3 : Int32) (st : List Value) (h : AH) (Q : Option Value → AH → Prop), WP 156 225 [.ref x0, .int x1, .int x2, .int x3] (st) h Q ↔ WP 156 226 [.ref x0, .int x1, .int x2, .int x3] (.int (2) :: st) h Q) ∧
  (∀ (x0 : Nat) (x1 : Int32) (x2 : Int32) (x3 : Int32) (y0 : Int32) (y1 : Int32) (st : List Value) (h : AH) (Q : Option Value → AH → Prop), WP 156 226 [.ref x0, .int x1, .int x2, .int x3] (.int y0 :: .int y1 :: st) h Q ↔ ((y0 ≤ y1 → WP 156 248 [.ref x0, .int x1, .int x2, .int x3] (st) h Q) ∧ (¬ y0 ≤ y1 → WP 156 229 [.ref x0, .int x1, .int x2, .int x3] (st) h Q))) ∧
  (∀ (x0 : Nat) (x1 : Int32) (x2 : Int32) (x3 : Int32) (st : List Value) (h : AH) (Q : Option Value → AH → Prop), WP 156 229 [.ref x0, .int x1, .int x2, .int x3] (st) h Q ↔ WP 156 230 [.ref x0, .int x1, .int x2, .int x3] (.ref x0 :: st) h Q) ∧
  (∀ (x0 : Nat) (x1 : Int32) (x2 : Int32) (x3 : Int32) (st : List Value) (h : AH) (Q : Option Value → AH → Prop), WP 156 230 [.ref x0, .int x1, .int x2, .int x3] (st) h Q ↔ WP 156 232 [.ref x0, .int x1, .int x2, .int x3] (.int (10) :: st) h Q) ∧
  (∀ (x0 : Nat) (x1 : Int32) (x2 : Int32) (x3 : Int32) (st : List Value) (h : AH) (Q : Option Value → AH → Prop), WP 156 232 [.ref x0, .int x1, .int x2, .int x3] (st) h Q ↔ WP 156 233 [.ref x0, .int x1, .int x2, .int x3] (.ref x0 :: st) h Q) ∧
  (∀ (x0 : Nat) (x1 : Int32) (x2 : Int32) (x3 : Int32) (y0 : Nat) (st : List Value) (h : AH) (Q : Option Value → AH → Prop) (ht : hT h y0 = 13), WP 156 233 [.ref x0, .int x1, .int x2, .int x3] (.ref y0 :: st) h Q ↔ WP 156 236 [.ref x0, .int x1, .int x2, .int x3] (.int (hI h y0 14) :: st) h Q) :=
  ⟨fun _ _ _ _ _ _ _ ht => WC_1 (show ct 156 155 = some (.invokevirtual 126, 3, [153, 1, 1, 13, 0, 1474, 1476, 59]) by decide +kernel) (Nat.le_of_ble_eq_true rfl) (Nat.le_of_ble_eq_true rfl) rfl rfl ht,
  fun _ _ _ _ _ _ _ => WC_0 (show ct 156 158 = some (.invokestatic 139, 3, [154, 1, 0, 0, 0, 1478, 1479, 0]) by decide +kernel) (Nat.le_of_ble_eq_true rfl) (Nat.le_of_ble_eq_true rfl) rfl rfl,
  fun _ _ _ _ _ _ _ _ => WZ_ne (show ct 156 161 = some (.ifCond .ne 13, 0, [174]) by decide +kernel) (by decide),
  fun _ _ _ _ _ _ _ => WP_s (show ct 156 164 = some (.aload_n 0, 0, []) by decide +kernel) rfl,
  fun _ _ _ _ _ _ _ ht => WC_1 (show ct 156 165 = some (.invokevirtual 126, 3, [153, 1, 1, 13, 0, 1474, 1476, 59]) by decide +kernel) (Nat.le_of_ble_eq_true rfl) (Nat.le_of_ble_eq_true rfl) rfl rfl ht,
  fun _ _ _ _ _ _ _ => WC_0 (show ct 156 168 = some (.invokestatic 143, 3, [155, 1, 0, 0, 0, 1481, 1482, 0]) by decide +kernel) (Nat.le_of_ble_eq_true rfl) (Nat.le_of_ble_eq_true rfl) rfl rfl,
  fun _ _ _ _ _ _ _ _ => WZ_eq (show ct 156 171 = some (.ifCond .eq 100, 0, [271]) by decide +kernel) (by decide),
  fun _ _ _ _ _ _ _ => WP_s (show ct 156 174 = some (.iload_n 3, 0, []) by decide +kernel) rfl,
  fun _ _ _ _ _ _ _ _ => WZ_eq (show ct 156 175 = some (.ifCond .eq 18, 0, [193]) by decide +kernel) (by decide),
  fun _ _ _ _ _ _ _ => WP_s (show ct 156 178 = some (.aload_n 0, 0, []) by decide +kernel) rfl,
  fun _ _ _ _ _ _ _ ht => WC_1 (show ct 156 179 = some (.invokevirtual 126, 3, [153, 1, 1, 13, 0, 1474, 1476, 59]) by decide +kernel) (Nat.le_of_ble_eq_true rfl) (Nat.le_of_ble_eq_true rfl) rfl rfl ht,
  fun _ _ _ _ _ _ _ => WC_0 (show ct 156 182 = some (.invokestatic 139, 3, [154, 1, 0, 0, 0, 1478, 1479, 0]) by decide +kernel) (Nat.le_of_ble_eq_true rfl) (Nat.le_of_ble_eq_true rfl) rfl rfl,
  fun _ _ _ _ _ _ _ => WP_s (show ct 156 185 = some (.iload_n 2, 0, []) by decide +kernel) rfl,
  fun _ _ _ _ _ _ _ _ _ => WI_ne (show ct 156 186 = some (.if_icmp .ne 7, 0, [193]) by decide +kernel) (by decide),
  fun _ _ _ _ _ _ _ => WP_s (show ct 156 189 = some (.iconst 1, 0, []) by decide +kernel) rfl,
  fun _ _ _ _ _ _ _ => WP_s (show ct 156 190 = some (.goto 4, 0, [194]) by decide +kernel) rfl,
  fun _ _ _ _ _ _ _ => WP_s (show ct 156 193 = some (.iconst 0, 0, []) by decide +kernel) rfl,
  fun _ _ _ _ _ _ _ _ => WP_s (show ct 156 194 = some (.istore_n 3, 0, []) by decide +kernel) rfl,
  fun _ _ _ _ _ _ _ => WP_s (show ct 156 195 = some (.aload_n 0, 0, []) by decide +kernel) rfl,
  fun _ _ _ _ _ _ _ _ ht => WH_gI (show ct 156 196 = some (.getfield 133, 1, [12, 13, 0, 1286]) by decide +kernel) (by decide) ht,
  fun _ _ _ _ _ _ _ => WP_s (show ct 156 199 = some (.bipush 6, 0, []) by decide +kernel) rfl,
  fun _ _ _ _ _ _ _ _ _ => WI_ge (show ct 156 201 = some (.if_icmp .ge 20, 0, [221]) by decide +kernel) (by decide),
  fun _ _ _ _ _ _ _ => WP_s (show ct 156 204 = some (.aload_n 0, 0, []) by decide +kernel) rfl,
  fun _ _ _ _ _ _ _ => WP_s (show ct 156 205 = some (.aload_n 0, 0, []) by decide +kernel) rfl,
  fun _ _ _ _ _ _ _ _ ht => WH_gJ (show ct 156 206 = some (.getfield 149, 1, [12, 17, 1, 1290]) by decide +kernel) ht,
  fun _ _ _ _ _ _ _ => WP_s (show ct 156 209 = some (.bipush 8, 0, []) by decide +kernel) rfl,
  fun _ _ _ _ _ _ _ _ _ => WP_s (show ct 156 211 = some (.lshl, 0, []) by decide +kernel) rfl,
  fun _ _ _ _ _ _ _ => WP_s (show ct 156 212 = some (.aload_n 0, 0, []) by decide +kernel) rfl,
  fun _ _ _ _ _ _ _ _ _ ht => WC_1 (show ct 156 213 = some (.invokevirtual 126, 3, [153, 1, 1, 13, 0, 1474, 1476, 59]) by decide +kernel) (Nat.le_of_ble_eq_true rfl) (Nat.le_of_ble_eq_true rfl) rfl rfl ht,
  fun _ _ _ _ _ _ _ _ => WP_s (show ct 156 216 = some (.i2l, 0, []) by decide +kernel) rfl,
  fun _ _ _ _ _ _ _ _ _ => WP_s (show ct 156 217 = some (.lor, 0, []) by decide +kernel) rfl,
  fun _ _ _ _ _ _ _ _ _ ht => WH_pJ (show ct 156 218 = some (.putfield 149, 1, [12, 17, 1, 0, 1290]) by decide +kernel) ht,
  fun _ _ _ _ _ _ _ => WP_s (show ct 156 221 = some (.aload_n 0, 0, []) by decide +kernel) rfl,
  fun _ _ _ _ _ _ _ _ ht => WH_gI (show ct 156 222 = some (.getfield 133, 1, [12, 13, 0, 1286]) by decide +kernel) (by decide) ht,
  fun _ _ _ _ _ _ _ => WP_s (show ct 156 225 = some (.iconst 2, 0, []) by decide +kernel) rfl,
  fun _ _ _ _ _ _ _ _ _ => WI_ge (show ct 156 226 = some (.if_icmp .ge 22, 0, [248]) by decide +kernel) (by decide),
  fun _ _ _ _ _ _ _ => WP_s (show ct 156 229 = some (.aload_n 0, 0, []) by decide +kernel) rfl,
  fun _ _ _ _ _ _ _ => WP_s (show ct 156 230 = some (.bipush 10, 0, []) by decide +kernel) rfl,
  fun _ _ _ _ _ _ _ => WP_s (show ct 156 232 = some (.aload_n 0, 0, []) by decide +kernel) rfl,
  fun _ _ _ _ _ _ _ _ ht => WH_gI (show ct 156 233 = some (.getfield 146, 1, [12, 14, 0, 1287]) by decide +kernel) (by decide) ht⟩
set_option maxRecDepth 10000 in
theorem w156_d : (∀ (x0 : Nat) (x1 : Int32) (x2 : Int32) (x3 : Int32) (y0 : Int32) (y1 : Int32) (st : List Value) (h : AH) (Q : Option Value → AH → Prop), WP 156 236 [.ref x0, .int x1, .int x2, .int x3] (.int y0 :: .int y1 :: st) h Q ↔ WP 156 237 [.ref x0, .int x1, .int x2, .int x3] (.int (y1 * y0) :: st) h Q) ∧
  (∀ (x0 : Nat) (x1 : Int32) (x2 : Int32) (x3 : Int32) (st : List Value) (h : AH) (Q : Option Value → AH → Prop), WP 156 237 [.ref x0, .int x1, .int x2, .int x3] (st) h Q ↔ WP 156 238 [.ref x0, .int x1, .int x2, .int x3] (.ref x0 :: st) h Q) ∧
  (∀ (x0 : Nat) (x1 : Int32) (x2 : Int32) (x3 : Int32) (y2 : Nat) (y1 : Int32) (y0 : Nat) (h : AH) (Q : Option Value → AH → Prop) (ht : hT h y0 = 13), WP 156 238 [.ref x0, .int x1, .int x2, .int x3] ([.ref y0, .int y1, .ref y2]) h Q ↔ WPM 153 [.ref y0] h (fun r h' => WP 156 241 [.ref x0, .int x1, .int x2, .int x3] (r.toList ++ [.int y1, .ref y2]) h' Q)) ∧
  (∀ (x0 : Nat) (x1 : Int32) (x2 : Int32) (x3 : Int32) (y0 : Int32) (y1 : Int32) (st : List Value) (h : AH) (Q : Option Value → AH → Prop), WP 156 241 [.ref x0, .int x1, .int x2, .int x3] (.int y0 :: .int y1 :: st) h Q ↔ WP 156 242 [.ref x0, .int x1, .int x2, .int x3] (.int (y1 + y0) :: st) h Q) ∧
  (∀ (x0 : Nat) (x1 : Int32) (x2 : Int32) (x3 : Int32) (st : List Value) (h : AH) (Q : Option Value → AH → Prop), WP 156 242 [.ref x0, .int x1, .int x2, .int x3] (st) h Q ↔ WP 156 244 [.ref x0, .int x1, .int x2, .int x3] (.int (48) :: st) h Q) ∧
  (∀ (x0 : Nat) (x1 : Int32) (x2 : Int32) (x3 : Int32) (y0 : Int32) (y1 : Int32) (st : List Value) (h : AH) (Q : Option Value → AH → Prop), WP 156 244 [.ref x0, .int x1, .int x2, .int x3] (.int y0 :: .int y1 :: st) h Q ↔ WP 156 245 [.ref x0, .int x1, .int x2, .int x3] (.int (y1 - y0) :: st) h Q) ∧
  (∀ (x0 : Nat) (x1 : Int32) (x2 : Int32) (x3 : Int32) (y0 : Int32) (y1 : Nat) (st : List Value) (h : AH) (Q : Option Value → AH → Prop) (ht : hT h y1 = 13), WP 156 245 [.ref x0, .int x1, .int x2, .int x3] (.int y0 :: .ref y1 :: st) h Q ↔ WP 156 248 [.ref x0, .int x1, .int x2, .int x3] (st) (sI h y1 14 y0) Q) ∧
  (∀ (x0 : Nat) (x1 : Int32) (x2 : Int32) (x3 : Int32) (st : List Value) (h : AH) (Q : Option Value → AH → Prop), WP 156 248 [.ref x0, .int x1, .int x2, .int x3] (st) h Q ↔ WP 156 249 [.ref x0, .int x1, .int x2, .int x3] (.ref x0 :: st) h Q) ∧
  (∀ (x0 : Nat) (x1 : Int32) (x2 : Int32) (x3 : Int32) (y0 : Nat) (st : List Value) (h : AH) (Q : Option Value → AH → Prop), WP 156 249 [.ref x0, .int x1, .int x2, .int x3] (.ref y0 :: st) h Q ↔ WP 156 250 [.ref x0, .int x1, .int x2, .int x3] (.ref y0 :: .ref y0 :: st) h Q) ∧
  (∀ (x0 : Nat) (x1 : Int32) (x2 : Int32) (x3 : Int32) (y0 : Nat) (st : List Value) (h : AH) (Q : Option Value → AH → Prop) (ht : hT h y0 = 13), WP 156 250 [.ref x0, .int x1, .int x2, .int x3] (.ref y0 :: st) h Q ↔ WP 156 253 [.ref x0, .int x1, .int x2, .int x3] (.int (hI h y0 13) :: st) h Q) ∧
  (∀ (x0 : Nat) (x1 : Int32) (x2 : Int32) (x3 : Int32) (st : List Value) (h : AH) (Q : Option Value → AH → Prop), WP 156 253 [.ref x0, .int x1, .int x2, .int x3] (st) h Q ↔ WP 156 254 [.ref x0, .int x1, .int x2, .int x3] (.int (1) :: st) h Q) ∧
  (∀ (x0 : Nat) (x1 : Int32) (x2 : Int32) (x3 : Int32) (y0 : Int32) (y1 : Int32) (st : List Value) (h : AH) (Q : Option Value → AH → Prop), WP 156 254 [.ref x0, .int x1, .int x2, .int x3] (.int y0 :: .int y1 :: st) h Q ↔ WP 156 255 [.ref x0, .int x1, .int x2, .int x3] (.int (y1 + y0) :: st) h Q) ∧
  (∀ (x0 : Nat) (x1 : Int32) (x2 : Int32) (x3 : Int32) (y0 : Int32) (y1 : Nat) (st : List Value) (h : AH) (Q : Option Value → AH → Prop) (ht : hT h y1 = 13), WP 156 255 [.ref x0, .int x1, .int x2, .int x3] (.int y0 :: .ref y1 :: st) h Q ↔ WP 156 258 [.ref x0, .int x1, .int x2, .int x3] (st) (sI h y1 13 y0) Q) ∧
  (∀ (x0 : Nat) (x1 : Int32) (x2 : Int32) (x3 : Int32) (st : List Value) (h : AH) (Q : Option Value → AH → Prop), WP 156 258 [.ref x0, .int x1, .int x2, .int x3] (st) h Q ↔ WP 156 259 [.ref x0, .int x1, .int x2, .int x3] (.ref x0 :: st) h Q) ∧
  (∀ (x0 : Nat) (x1 : Int32) (x2 : Int32) (x3 : Int32) (y0 : Nat) (st : List Value) (h : AH) (Q : Option Value → AH → Prop), WP 156 259 [.ref x0, .int x1, .int x2, .int x3] (.ref y0 :: st) h Q ↔ WP 156 260 [.ref x0, .int x1, .int x2, .int x3] (.ref y0 :: .ref y0 :: st) h Q) ∧
  (∀ (x0 : Nat) (x1 : Int32) (x2 : Int32) (x3 : Int32) (y0 : Nat) (st : List Value) (h : AH) (Q : Option Value → AH → Prop) (ht : hT h y0 = 13), WP 156 260 [.ref x0, .int x1, .int x2, .int x3] (.ref y0 :: st) h Q ↔ WP 156 263 [.ref x0, .int x1, .int x2, .int x3] (.int (hI h y0 4) :: st) h Q) ∧
  (∀ (x0 : Nat) (x1 : Int32) (x2 : Int32) (x3 : Int32) (st : List Value) (h : AH) (Q : Option Value → AH → Prop), WP 156 263 [.ref x0, .int x1, .int x2, .int x3] (st) h Q ↔ WP 156 264 [.ref x0, .int x1, .int x2, .int x3] (.int (1) :: st) h Q) ∧
  (∀ (x0 : Nat) (x1 : Int32) (x2 : Int32) (x3 : Int32) (y0 : Int32) (y1 : Int32) (st : List Value) (h : AH) (Q : Option Value → AH → Prop), WP 156 264 [.ref x0, .int x1, .int x2, .int x3] (.int y0 :: .int y1 :: st) h Q ↔ WP 156 265 [.ref x0, .int x1, .int x2, .int x3] (.int (y1 + y0) :: st) h Q) ∧
  (∀ (x0 : Nat) (x1 : Int32) (x2 : Int32) (x3 : Int32) (y0 : Int32) (y1 : Nat) (st : List Value) (h : AH) (Q : Option Value → AH → Prop) (ht : hT h y1 = 13), WP 156 265 [.ref x0, .int x1, .int x2, .int x3] (.int y0 :: .ref y1 :: st) h Q ↔ WP 156 268 [.ref x0, .int x1, .int x2, .int x3] (st) (sI h y1 4 y0) Q) ∧
  (∀ (x0 : Nat) (x1 : Int32) (x2 : Int32) (x3 : Int32) (st : List Value) (h : AH) (Q : Option Value → AH → Prop), WP 156 268 [.ref x0, .int x1, .int x2, .int x3] (st) h Q ↔ WP 156 154 [.ref x0, .int x1, .int x2, .int x3] (st) h Q) ∧
  (∀ (x0 : Nat) (x1 : Int32) (x2 : Int32) (x3 : Int32) (st : List Value) (h : AH) (Q : Option Value → AH → Prop), WP 156 271 [.ref x0, .int x1, .int x2, .int x3] (st) h Q ↔ WP 156 272 [.ref x0, .int x1, .int x2, .int x3] (.ref x0 :: st) h Q) ∧
  (∀ (x0 : Nat) (x1 : Int32) (x2 : Int32) (x3 : Int32) (st : List Value) (h : AH) (Q : Option Value → AH → Prop), WP 156 272 [.ref x0, .int x1, .int x2, .int x3] (st) h Q ↔ WP 156 273 [.ref x0, .int x1, .int x2, .int x3] (.int x3 :: st) h Q) ∧
  (∀ (x0 : Nat) (x1 : Int32) (x2 : Int32) (x3 : Int32) (y0 : Int32) (st : List Value) (h : AH) (Q : Option Value → AH → Prop), WP 156 273 [.ref x0, .int x1, .int x2, .int x3] (.int y0 :: st) h Q ↔ ((y0 = 0 → WP 156 293 [.ref x0, .int x1, .int x2, .int x3] (st) h Q) ∧ (¬ y0 = 0 → WP 156 276 [.ref x0, .int x1, .int x2, .int x3] (st) h Q))) ∧
  (∀ (x0 : Nat) (x1 : Int32) (x2 : Int32) (x3 : Int32) (st : List Value) (h : AH) (Q : Option Value → AH → Prop), WP 156 276 [.ref x0, .int x1, .int x2, .int x3] (st) h Q ↔ WP 156 277 [.ref x0, .int x1, .int x2, .int x3] (.ref x0 :: st) h Q) ∧
  (∀ (x0 : Nat) (x1 : Int32) (x2 : Int32) (x3 : Int32) (y0 : Nat) (st : List Value) (h : AH) (Q : Option Value → AH → Prop) (ht : hT h y0 = 13), WP 156 277 [.ref x0, .int x1, .int x2, .int x3] (.ref y0 :: st) h Q ↔ WP 156 280 [.ref x0, .int x1, .int x2, .int x3] (.int (hI h y0 13) :: st) h Q) ∧
  (∀ (x0 : Nat) (x1 : Int32) (x2 : Int32) (x3 : Int32) (st : List Value) (h : AH) (Q : Option Value → AH → Prop), WP 156 280 [.ref x0, .int x1, .int x2, .int x3] (st) h Q ↔ WP 156 281 [.ref x0, .int x1, .int x2, .int x3] (.int x2 :: st) h Q) ∧
  (∀ (x0 : Nat) (x1 : Int32) (x2 : Int32) (x3 : Int32) (y0 : Int32) (st : List Value) (h : AH) (Q : Option Value → AH → Prop), WP 156 281 [.ref x0, .int x1, .int x2, .int x3] (.int y0 :: st) h Q ↔ ((y0 = 0 → WP 156 289 [.ref x0, .int x1, .int x2, .int x3] (st) h Q) ∧ (¬ y0 = 0 → WP 156 284 [.ref x0, .int x1, .int x2, .int x3] (st) h Q))) ∧
  (∀ (x0 : Nat) (x1 : Int32) (x2 : Int32) (x3 : Int32) (st : List Value) (h : AH) (Q : Option Value → AH → Prop), WP 156 284 [.ref x0, .int x1, .int x2, .int x3] (st) h Q ↔ WP 156 286 [.ref x0, .int x1, .int x2, .int x3] (.int (6) :: st) h Q) ∧
  (∀ (x0 : Nat) (x1 : Int32) (x2 : Int32) (x3 : Int32) (st : List Value) (h : AH) (Q : Option Value → AH → Prop), WP 156 286 [.ref x0, .int x1, .int x2, .int x3] (st) h Q ↔ WP 156 290 [.ref x0, .int x1, .int x2, .int x3] (st) h Q) ∧
  (∀ (x0 : Nat) (x1 : Int32) (x2 : Int32) (x3 : Int32) (st : List Value) (h : AH) (Q : Option Value → AH → Prop), WP 156 289 [.ref x0, .int x1, .int x2, .int x3] (st) h Q ↔ WP 156 290 [.ref x0, .int x1, .int x2, .int x3] (.int (2) :: st) h Q) ∧
  (∀ (x0 : Nat) (x1 : Int32) (x2 : Int32) (x3 : Int32) (y0 : Int32) (y1 : Int32) (st : List Value) (h : AH) (Q : Option Value → AH → Prop), WP 156 290 [.ref x0, .int x1, .int x2, .int x3] (.int y0 :: .int y1 :: st) h Q ↔ ((y1 ≤ y0 → WP 156 297 [.ref x0, .int x1, .int x2, .int x3] (st) h Q) ∧ (¬ y1 ≤ y0 → WP 156 293 [.ref x0, .int x1, .int x2, .int x3] (st) h Q))) ∧
  (∀ (x0 : Nat) (x1 : Int32) (x2 : Int32) (x3 : Int32) (st : List Value) (h : AH) (Q : Option Value → AH → Prop), WP 156 293 [.ref x0, .int x1, .int x2, .int x3] (st) h Q ↔ WP 156 294 [.ref x0, .int x1, .int x2, .int x3] (.int (4) :: st) h Q) ∧
  (∀ (x0 : Nat) (x1 : Int32) (x2 : Int32) (x3 : Int32) (st : List Value) (h : AH) (Q : Option Value → AH → Prop), WP 156 294 [.ref x0, .int x1, .int x2, .int x3] (st) h Q ↔ WP 156 306 [.ref x0, .int x1, .int x2, .int x3] (st) h Q) ∧
  (∀ (x0 : Nat) (x1 : Int32) (x2 : Int32) (x3 : Int32) (st : List Value) (h : AH) (Q : Option Value → AH → Prop), WP 156 297 [.ref x0, .int x1, .int x2, .int x3] (st) h Q ↔ WP 156 298 [.ref x0, .int x1, .int x2, .int x3] (.int x2 :: st) h Q) ∧
  (∀ (x0 : Nat) (x1 : Int32) (x2 : Int32) (x3 : Int32) (y0 : Int32) (st : List Value) (h : AH) (Q : Option Value → AH → Prop), WP 156 298 [.ref x0, .int x1, .int x2, .int x3] (.int y0 :: st) h Q ↔ ((y0 = 0 → WP 156 305 [.ref x0, .int x1, .int x2, .int x3] (st) h Q) ∧ (¬ y0 = 0 → WP 156 301 [.ref x0, .int x1, .int x2, .int x3] (st) h Q))) ∧
  (∀ (x0 : Nat) (x1 : Int32) (x2 : Int32) (x3 : Int32) (st : List Value) (h : AH) (Q : Option Value → AH → Prop), WP 156 301 [.ref x0, .int x1, .int x2, .int x3] (st) h Q ↔ WP 156 302 [.ref x0, .int x1, .int x2, .int x3] (.int (1) :: st) h Q) ∧
  (∀ (x0 : Nat) (x1 : Int32) (x2 : Int32) (x3 : Int32) (st : List Value) (h : AH) (Q : Option Value → AH → Prop), WP 156 302 [.ref x0, .int x1, .int x2, .int x3] (st) h Q ↔ WP 156 306 [.ref x0, .int x1, .int x2, .int x3] (st) h Q) ∧
  (∀ (x0 : Nat) (x1 : Int32) (x2 : Int32) (x3 : Int32) (st : List Value) (h : AH) (Q : Option Value → AH → Prop), WP 156 305 [.ref x0, .int x1, .int x2, .int x3] (st) h Q ↔ WP 156 306 [.ref x0, .int x1, .int x2, .int x3] (.int (2) :: st) h Q) ∧
  (∀ (x0 : Nat) (x1 : Int32) (x2 : Int32) (x3 : Int32) (y0 : Int32) (y1 : Nat) (st : List Value) (h : AH) (Q : Option Value → AH → Prop) (ht : hT h y1 = 13), WP 156 306 [.ref x0, .int x1, .int x2, .int x3] (.int y0 :: .ref y1 :: st) h Q ↔ WP 156 309 [.ref x0, .int x1, .int x2, .int x3] (st) (sI h y1 11 y0) Q) ∧
  (∀ (x0 : Nat) (x1 : Int32) (x2 : Int32) (x3 : Int32) (h : AH) (Q : Option Value → AH → Prop), WP 156 309 [.ref x0, .int x1, .int x2, .int x3] ([]) h Q ↔ Q none h) :=
  ⟨fun _ _ _ _ _ _ _ _ _ => WP_s (show ct 156 236 = some (.imul, 0, []) by decide +kernel) rfl,
  fun _ _ _ _ _ _ _ => WP_s (show ct 156 237 = some (.aload_n 0, 0, []) by decide +kernel) rfl,
  fun _ _ _ _ _ _ _ _ _ ht => WC_1 (show ct 156 238 = some (.invokevirtual 126, 3, [153, 1, 1, 13, 0, 1474, 1476, 59]) by decide +kernel) (Nat.le_of_ble_eq_true rfl) (Nat.le_of_ble_eq_true rfl) rfl rfl ht,
  fun _ _ _ _ _ _ _ _ _ => WP_s (show ct 156 241 = some (.iadd, 0, []) by decide +kernel) rfl,
  fun _ _ _ _ _ _ _ => WP_s (show ct 156 242 = some (.bipush 48, 0, []) by decide +kernel) rfl,
  fun _ _ _ _ _ _ _ _ _ => WP_s (show ct 156 244 = some (.isub, 0, []) by decide +kernel) rfl,
  fun _ _ _ _ _ _ _ _ _ ht => WH_pI (show ct 156 245 = some (.putfield 146, 1, [12, 14, 0, 0, 1287]) by decide +kernel) ht,
  fun _ _ _ _ _ _ _ => WP_s (show ct 156 248 = some (.aload_n 0, 0, []) by decide +kernel) rfl,
  fun _ _ _ _ _ _ _ _ => WP_s (show ct 156 249 = some (.dup, 0, []) by decide +kernel) rfl,
  fun _ _ _ _ _ _ _ _ ht => WH_gI (show ct 156 250 = some (.getfield 133, 1, [12, 13, 0, 1286]) by decide +kernel) (by decide) ht,
  fun _ _ _ _ _ _ _ => WP_s (show ct 156 253 = some (.iconst 1, 0, []) by decide +kernel) rfl,
  fun _ _ _ _ _ _ _ _ _ => WP_s (show ct 156 254 = some (.iadd, 0, []) by decide +kernel) rfl,
  fun _ _ _ _ _ _ _ _ _ ht => WH_pI (show ct 156 255 = some (.putfield 133, 1, [12, 13, 0, 0, 1286]) by decide +kernel) ht,
  fun _ _ _ _ _ _ _ => WP_s (show ct 156 258 = some (.aload_n 0, 0, []) by decide +kernel) rfl,
  fun _ _ _ _ _ _ _ _ => WP_s (show ct 156 259 = some (.dup, 0, []) by decide +kernel) rfl,
  fun _ _ _ _ _ _ _ _ ht => WH_gI (show ct 156 260 = some (.getfield 123, 1, [12, 4, 0, 1277]) by decide +kernel) (by decide) ht,
  fun _ _ _ _ _ _ _ => WP_s (show ct 156 263 = some (.iconst 1, 0, []) by decide +kernel) rfl,
  fun _ _ _ _ _ _ _ _ _ => WP_s (show ct 156 264 = some (.iadd, 0, []) by decide +kernel) rfl,
  fun _ _ _ _ _ _ _ _ _ ht => WH_pI (show ct 156 265 = some (.putfield 123, 1, [12, 4, 0, 0, 1277]) by decide +kernel) ht,
  fun _ _ _ _ _ _ _ => WP_s (show ct 156 268 = some (.goto (-114), 0, [154]) by decide +kernel) rfl,
  fun _ _ _ _ _ _ _ => WP_s (show ct 156 271 = some (.aload_n 0, 0, []) by decide +kernel) rfl,
  fun _ _ _ _ _ _ _ => WP_s (show ct 156 272 = some (.iload_n 3, 0, []) by decide +kernel) rfl,
  fun _ _ _ _ _ _ _ _ => WZ_eq (show ct 156 273 = some (.ifCond .eq 20, 0, [293]) by decide +kernel) (by decide),
  fun _ _ _ _ _ _ _ => WP_s (show ct 156 276 = some (.aload_n 0, 0, []) by decide +kernel) rfl,
  fun _ _ _ _ _ _ _ _ ht => WH_gI (show ct 156 277 = some (.getfield 133, 1, [12, 13, 0, 1286]) by decide +kernel) (by decide) ht,
  fun _ _ _ _ _ _ _ => WP_s (show ct 156 280 = some (.iload_n 2, 0, []) by decide +kernel) rfl,
  fun _ _ _ _ _ _ _ _ => WZ_eq (show ct 156 281 = some (.ifCond .eq 8, 0, [289]) by decide +kernel) (by decide),
  fun _ _ _ _ _ _ _ => WP_s (show ct 156 284 = some (.bipush 6, 0, []) by decide +kernel) rfl,
  fun _ _ _ _ _ _ _ => WP_s (show ct 156 286 = some (.goto 4, 0, [290]) by decide +kernel) rfl,
  fun _ _ _ _ _ _ _ => WP_s (show ct 156 289 = some (.iconst 2, 0, []) by decide +kernel) rfl,
  fun _ _ _ _ _ _ _ _ _ => WI_le (show ct 156 290 = some (.if_icmp .le 7, 0, [297]) by decide +kernel) (by decide),
  fun _ _ _ _ _ _ _ => WP_s (show ct 156 293 = some (.iconst 4, 0, []) by decide +kernel) rfl,
  fun _ _ _ _ _ _ _ => WP_s (show ct 156 294 = some (.goto 12, 0, [306]) by decide +kernel) rfl,
  fun _ _ _ _ _ _ _ => WP_s (show ct 156 297 = some (.iload_n 2, 0, []) by decide +kernel) rfl,
  fun _ _ _ _ _ _ _ _ => WZ_eq (show ct 156 298 = some (.ifCond .eq 7, 0, [305]) by decide +kernel) (by decide),
  fun _ _ _ _ _ _ _ => WP_s (show ct 156 301 = some (.iconst 1, 0, []) by decide +kernel) rfl,
  fun _ _ _ _ _ _ _ => WP_s (show ct 156 302 = some (.goto 4, 0, [306]) by decide +kernel) rfl,
  fun _ _ _ _ _ _ _ => WP_s (show ct 156 305 = some (.iconst 2, 0, []) by decide +kernel) rfl,
  fun _ _ _ _ _ _ _ _ _ ht => WH_pI (show ct 156 306 = some (.putfield 136, 1, [12, 11, 0, 0, 1284]) by decide +kernel) ht,
  fun _ _ _ _ _ _ => WR_v (show ct 156 309 = some (.return_, 2, [0]) by decide +kernel)⟩
/-- all of 156 -/
def w156_n : Nat := 4
/-! 157: FewBowlsModel.bad(I)Z; loop heads [] -/
set_option maxRecDepth 10000 in
theorem w157 : (∀ (x0 : Nat) (x1 : Int32) (st : List Value) (h : AH) (Q : Option Value → AH → Prop), WP 157 0 [.ref x0, .int x1] (st) h Q ↔ WP 157 1 [.ref x0, .int x1] (.ref x0 :: st) h Q) ∧
  (∀ (x0 : Nat) (x1 : Int32) (st : List Value) (h : AH) (Q : Option Value → AH → Prop), WP 157 1 [.ref x0, .int x1] (st) h Q ↔ WP 157 2 [.ref x0, .int x1] (.int x1 :: st) h Q) ∧
  (∀ (x0 : Nat) (x1 : Int32) (y0 : Int32) (y1 : Nat) (st : List Value) (h : AH) (Q : Option Value → AH → Prop) (ht : hT h y1 = 13), WP 157 2 [.ref x0, .int x1] (.int y0 :: .ref y1 :: st) h Q ↔ WP 157 5 [.ref x0, .int x1] (st) (sI h y1 15 y0) Q) ∧
  (∀ (x0 : Nat) (x1 : Int32) (st : List Value) (h : AH) (Q : Option Value → AH → Prop), WP 157 5 [.ref x0, .int x1] (st) h Q ↔ WP 157 6 [.ref x0, .int x1] (.ref x0 :: st) h Q) ∧
  (∀ (x0 : Nat) (x1 : Int32) (st : List Value) (h : AH) (Q : Option Value → AH → Prop), WP 157 6 [.ref x0, .int x1] (st) h Q ↔ WP 157 7 [.ref x0, .int x1] (.ref x0 :: st) h Q) ∧
  (∀ (x0 : Nat) (x1 : Int32) (y0 : Nat) (st : List Value) (h : AH) (Q : Option Value → AH → Prop) (ht : hT h y0 = 13), WP 157 7 [.ref x0, .int x1] (.ref y0 :: st) h Q ↔ WP 157 10 [.ref x0, .int x1] (.int (hI h y0 12) :: st) h Q) ∧
  (∀ (x0 : Nat) (x1 : Int32) (y0 : Int32) (y1 : Nat) (st : List Value) (h : AH) (Q : Option Value → AH → Prop) (ht : hT h y1 = 13), WP 157 10 [.ref x0, .int x1] (.int y0 :: .ref y1 :: st) h Q ↔ WP 157 13 [.ref x0, .int x1] (st) (sI h y1 16 y0) Q) ∧
  (∀ (x0 : Nat) (x1 : Int32) (st : List Value) (h : AH) (Q : Option Value → AH → Prop), WP 157 13 [.ref x0, .int x1] (st) h Q ↔ WP 157 14 [.ref x0, .int x1] (.int (0) :: st) h Q) ∧
  (∀ (x0 : Nat) (x1 : Int32) (y0 : Int32) (h : AH) (Q : Option Value → AH → Prop) (hz : y0 = 0 ∨ y0 = 1), WP 157 14 [.ref x0, .int x1] ([.int y0]) h Q ↔ Q (some (.int y0)) h) :=
  ⟨fun _ _ _ _ _ => WP_s (show ct 157 0 = some (.aload_n 0, 0, []) by decide +kernel) rfl,
  fun _ _ _ _ _ => WP_s (show ct 157 1 = some (.iload_n 1, 0, []) by decide +kernel) rfl,
  fun _ _ _ _ _ _ _ ht => WH_pI (show ct 157 2 = some (.putfield 153, 1, [12, 15, 0, 0, 1288]) by decide +kernel) ht,
  fun _ _ _ _ _ => WP_s (show ct 157 5 = some (.aload_n 0, 0, []) by decide +kernel) rfl,
  fun _ _ _ _ _ => WP_s (show ct 157 6 = some (.aload_n 0, 0, []) by decide +kernel) rfl,
  fun _ _ _ _ _ _ ht => WH_gI (show ct 157 7 = some (.getfield 130, 1, [12, 12, 0, 1285]) by decide +kernel) (by decide) ht,
  fun _ _ _ _ _ _ _ ht => WH_pI (show ct 157 10 = some (.putfield 156, 1, [12, 16, 0, 0, 1289]) by decide +kernel) ht,
  fun _ _ _ _ _ => WP_s (show ct 157 13 = some (.iconst 0, 0, []) by decide +kernel) rfl,
  fun _ _ _ _ _ hz => WR_z (show ct 157 14 = some (.ireturn, 2, [1]) by decide +kernel) hz⟩
/-! 158: FewBowlsModel.isWord(J)Z; loop heads [] -/
set_option maxRecDepth 10000 in
theorem w158 : (∀ (x0 : Nat) (x1 : Int64) (st : List Value) (h : AH) (Q : Option Value → AH → Prop), WP 158 0 [.ref x0, .long x1, .retAddr 0] (st) h Q ↔ WP 158 1 [.ref x0, .long x1, .retAddr 0] (.ref x0 :: st) h Q) ∧
  (∀ (x0 : Nat) (x1 : Int64) (y0 : Nat) (st : List Value) (h : AH) (Q : Option Value → AH → Prop) (ht : hT h y0 = 13), WP 158 1 [.ref x0, .long x1, .retAddr 0] (.ref y0 :: st) h Q ↔ WP 158 4 [.ref x0, .long x1, .retAddr 0] (.int (hI h y0 11) :: st) h Q) ∧
  (∀ (x0 : Nat) (x1 : Int64) (st : List Value) (h : AH) (Q : Option Value → AH → Prop), WP 158 4 [.ref x0, .long x1, .retAddr 0] (st) h Q ↔ WP 158 5 [.ref x0, .long x1, .retAddr 0] (.int (1) :: st) h Q) ∧
  (∀ (x0 : Nat) (x1 : Int64) (y0 : Int32) (y1 : Int32) (st : List Value) (h : AH) (Q : Option Value → AH → Prop), WP 158 5 [.ref x0, .long x1, .retAddr 0] (.int y0 :: .int y1 :: st) h Q ↔ ((¬ y1 = y0 → WP 158 21 [.ref x0, .long x1, .retAddr 0] (st) h Q) ∧ (y1 = y0 → WP 158 8 [.ref x0, .long x1, .retAddr 0] (st) h Q))) ∧
  (∀ (x0 : Nat) (x1 : Int64) (st : List Value) (h : AH) (Q : Option Value → AH → Prop), WP 158 8 [.ref x0, .long x1, .retAddr 0] (st) h Q ↔ WP 158 9 [.ref x0, .long x1, .retAddr 0] (.ref x0 :: st) h Q) ∧
  (∀ (x0 : Nat) (x1 : Int64) (y0 : Nat) (st : List Value) (h : AH) (Q : Option Value → AH → Prop) (ht : hT h y0 = 13), WP 158 9 [.ref x0, .long x1, .retAddr 0] (.ref y0 :: st) h Q ↔ WP 158 12 [.ref x0, .long x1, .retAddr 0] (.long (hJ h y0 17) :: st) h Q) ∧
  (∀ (x0 : Nat) (x1 : Int64) (st : List Value) (h : AH) (Q : Option Value → AH → Prop), WP 158 12 [.ref x0, .long x1, .retAddr 0] (st) h Q ↔ WP 158 13 [.ref x0, .long x1, .retAddr 0] (.long x1 :: st) h Q) ∧
  (∀ (x0 : Nat) (x1 : Int64) (y0 : Int64) (y1 : Int64) (st : List Value) (h : AH) (Q : Option Value → AH → Prop), WP 158 13 [.ref x0, .long x1, .retAddr 0] (.long y0 :: .long y1 :: st) h Q ↔ WP 158 14 [.ref x0, .long x1, .retAddr 0] (.int (lg_cmp y1 y0) :: st) h Q) ∧
  (∀ (x0 : Nat) (x1 : Int64) (y0 : Int32) (st : List Value) (h : AH) (Q : Option Value → AH → Prop), WP 158 14 [.ref x0, .long x1, .retAddr 0] (.int y0 :: st) h Q ↔ ((¬ y0 = 0 → WP 158 21 [.ref x0, .long x1, .retAddr 0] (st) h Q) ∧ (y0 = 0 → WP 158 17 [.ref x0, .long x1, .retAddr 0] (st) h Q))) ∧
  (∀ (x0 : Nat) (x1 : Int64) (st : List Value) (h : AH) (Q : Option Value → AH → Prop), WP 158 17 [.ref x0, .long x1, .retAddr 0] (st) h Q ↔ WP 158 18 [.ref x0, .long x1, .retAddr 0] (.int (1) :: st) h Q) ∧
  (∀ (x0 : Nat) (x1 : Int64) (st : List Value) (h : AH) (Q : Option Value → AH → Prop), WP 158 18 [.ref x0, .long x1, .retAddr 0] (st) h Q ↔ WP 158 22 [.ref x0, .long x1, .retAddr 0] (st) h Q) ∧
  (∀ (x0 : Nat) (x1 : Int64) (st : List Value) (h : AH) (Q : Option Value → AH → Prop), WP 158 21 [.ref x0, .long x1, .retAddr 0] (st) h Q ↔ WP 158 22 [.ref x0, .long x1, .retAddr 0] (.int (0) :: st) h Q) ∧
  (∀ (x0 : Nat) (x1 : Int64) (y0 : Int32) (h : AH) (Q : Option Value → AH → Prop) (hz : y0 = 0 ∨ y0 = 1), WP 158 22 [.ref x0, .long x1, .retAddr 0] ([.int y0]) h Q ↔ Q (some (.int y0)) h) :=
  ⟨fun _ _ _ _ _ => WP_s (show ct 158 0 = some (.aload_n 0, 0, []) by decide +kernel) rfl,
  fun _ _ _ _ _ _ ht => WH_gI (show ct 158 1 = some (.getfield 136, 1, [12, 11, 0, 1284]) by decide +kernel) (by decide) ht,
  fun _ _ _ _ _ => WP_s (show ct 158 4 = some (.iconst 1, 0, []) by decide +kernel) rfl,
  fun _ _ _ _ _ _ _ => WI_ne (show ct 158 5 = some (.if_icmp .ne 16, 0, [21]) by decide +kernel) (by decide),
  fun _ _ _ _ _ => WP_s (show ct 158 8 = some (.aload_n 0, 0, []) by decide +kernel) rfl,
  fun _ _ _ _ _ _ ht => WH_gJ (show ct 158 9 = some (.getfield 149, 1, [12, 17, 1, 1290]) by decide +kernel) ht,
  fun _ _ _ _ _ => WP_s (show ct 158 12 = some (.lload_n 1, 0, []) by decide +kernel) rfl,
  fun _ _ _ _ _ _ _ => WP_s (show ct 158 13 = some (.lcmp, 0, []) by decide +kernel) rfl,
  fun _ _ _ _ _ _ => WZ_ne (show ct 158 14 = some (.ifCond .ne 7, 0, [21]) by decide +kernel) (by decide),
  fun _ _ _ _ _ => WP_s (show ct 158 17 = some (.iconst 1, 0, []) by decide +kernel) rfl,
  fun _ _ _ _ _ => WP_s (show ct 158 18 = some (.goto 4, 0, [22]) by decide +kernel) rfl,
  fun _ _ _ _ _ => WP_s (show ct 158 21 = some (.iconst 0, 0, []) by decide +kernel) rfl,
  fun _ _ _ _ _ hz => WR_z (show ct 158 22 = some (.ireturn, 2, [1]) by decide +kernel) hz⟩
/-! 159: FewBowlsModel.isSign(I)Z; loop heads [] -/
set_option maxRecDepth 10000 in
theorem w159 : (∀ (x0 : Nat) (x1 : Int32) (st : List Value) (h : AH) (Q : Option Value → AH → Prop), WP 159 0 [.ref x0, .int x1] (st) h Q ↔ WP 159 1 [.ref x0, .int x1] (.ref x0 :: st) h Q) ∧
  (∀ (x0 : Nat) (x1 : Int32) (y0 : Nat) (st : List Value) (h : AH) (Q : Option Value → AH → Prop) (ht : hT h y0 = 13), WP 159 1 [.ref x0, .int x1] (.ref y0 :: st) h Q ↔ WP 159 4 [.ref x0, .int x1] (.int (hI h y0 11) :: st) h Q) ∧
  (∀ (x0 : Nat) (x1 : Int32) (st : List Value) (h : AH) (Q : Option Value → AH → Prop), WP 159 4 [.ref x0, .int x1] (st) h Q ↔ WP 159 5 [.ref x0, .int x1] (.int (3) :: st) h Q) ∧
  (∀ (x0 : Nat) (x1 : Int32) (y0 : Int32) (y1 : Int32) (st : List Value) (h : AH) (Q : Option Value → AH → Prop), WP 159 5 [.ref x0, .int x1] (.int y0 :: .int y1 :: st) h Q ↔ ((¬ y1 = y0 → WP 159 20 [.ref x0, .int x1] (st) h Q) ∧ (y1 = y0 → WP 159 8 [.ref x0, .int x1] (st) h Q))) ∧
  (∀ (x0 : Nat) (x1 : Int32) (st : List Value) (h : AH) (Q : Option Value → AH → Prop), WP 159 8 [.ref x0, .int x1] (st) h Q ↔ WP 159 9 [.ref x0, .int x1] (.ref x0 :: st) h Q) ∧
  (∀ (x0 : Nat) (x1 : Int32) (y0 : Nat) (st : List Value) (h : AH) (Q : Option Value → AH → Prop) (ht : hT h y0 = 13), WP 159 9 [.ref x0, .int x1] (.ref y0 :: st) h Q ↔ WP 159 12 [.ref x0, .int x1] (.int (hI h y0 14) :: st) h Q) ∧
  (∀ (x0 : Nat) (x1 : Int32) (st : List Value) (h : AH) (Q : Option Value → AH → Prop), WP 159 12 [.ref x0, .int x1] (st) h Q ↔ WP 159 13 [.ref x0, .int x1] (.int x1 :: st) h Q) ∧
  (∀ (x0 : Nat) (x1 : Int32) (y0 : Int32) (y1 : Int32) (st : List Value) (h : AH) (Q : Option Value → AH → Prop), WP 159 13 [.ref x0, .int x1] (.int y0 :: .int y1 :: st) h Q ↔ ((¬ y1 = y0 → WP 159 20 [.ref x0, .int x1] (st) h Q) ∧ (y1 = y0 → WP 159 16 [.ref x0, .int x1] (st) h Q))) ∧
  (∀ (x0 : Nat) (x1 : Int32) (st : List Value) (h : AH) (Q : Option Value → AH → Prop), WP 159 16 [.ref x0, .int x1] (st) h Q ↔ WP 159 17 [.ref x0, .int x1] (.int (1) :: st) h Q) ∧
  (∀ (x0 : Nat) (x1 : Int32) (st : List Value) (h : AH) (Q : Option Value → AH → Prop), WP 159 17 [.ref x0, .int x1] (st) h Q ↔ WP 159 21 [.ref x0, .int x1] (st) h Q) ∧
  (∀ (x0 : Nat) (x1 : Int32) (st : List Value) (h : AH) (Q : Option Value → AH → Prop), WP 159 20 [.ref x0, .int x1] (st) h Q ↔ WP 159 21 [.ref x0, .int x1] (.int (0) :: st) h Q) ∧
  (∀ (x0 : Nat) (x1 : Int32) (y0 : Int32) (h : AH) (Q : Option Value → AH → Prop) (hz : y0 = 0 ∨ y0 = 1), WP 159 21 [.ref x0, .int x1] ([.int y0]) h Q ↔ Q (some (.int y0)) h) :=
  ⟨fun _ _ _ _ _ => WP_s (show ct 159 0 = some (.aload_n 0, 0, []) by decide +kernel) rfl,
  fun _ _ _ _ _ _ ht => WH_gI (show ct 159 1 = some (.getfield 136, 1, [12, 11, 0, 1284]) by decide +kernel) (by decide) ht,
  fun _ _ _ _ _ => WP_s (show ct 159 4 = some (.iconst 3, 0, []) by decide +kernel) rfl,
  fun _ _ _ _ _ _ _ => WI_ne (show ct 159 5 = some (.if_icmp .ne 15, 0, [20]) by decide +kernel) (by decide),
  fun _ _ _ _ _ => WP_s (show ct 159 8 = some (.aload_n 0, 0, []) by decide +kernel) rfl,
  fun _ _ _ _ _ _ ht => WH_gI (show ct 159 9 = some (.getfield 146, 1, [12, 14, 0, 1287]) by decide +kernel) (by decide) ht,
  fun _ _ _ _ _ => WP_s (show ct 159 12 = some (.iload_n 1, 0, []) by decide +kernel) rfl,
  fun _ _ _ _ _ _ _ => WI_ne (show ct 159 13 = some (.if_icmp .ne 7, 0, [20]) by decide +kernel) (by decide),
  fun _ _ _ _ _ => WP_s (show ct 159 16 = some (.iconst 1, 0, []) by decide +kernel) rfl,
  fun _ _ _ _ _ => WP_s (show ct 159 17 = some (.goto 4, 0, [21]) by decide +kernel) rfl,
  fun _ _ _ _ _ => WP_s (show ct 159 20 = some (.iconst 0, 0, []) by decide +kernel) rfl,
  fun _ _ _ _ _ hz => WR_z (show ct 159 21 = some (.ireturn, 2, [1]) by decide +kernel) hz⟩
/-! 160: FewBowlsModel.sign(I)Z; loop heads [] -/
set_option maxRecDepth 10000 in
theorem w160 : (∀ (x0 : Nat) (x1 : Int32) (st : List Value) (h : AH) (Q : Option Value → AH → Prop), WP 160 0 [.ref x0, .int x1] (st) h Q ↔ WP 160 1 [.ref x0, .int x1] (.ref x0 :: st) h Q) ∧
  (∀ (x0 : Nat) (x1 : Int32) (st : List Value) (h : AH) (Q : Option Value → AH → Prop), WP 160 1 [.ref x0, .int x1] (st) h Q ↔ WP 160 2 [.ref x0, .int x1] (.int x1 :: st) h Q) ∧
  (∀ (x0 : Nat) (x1 : Int32) (y1 : Nat) (y0 : Int32) (h : AH) (Q : Option Value → AH → Prop) (ht : hT h y1 = 13), WP 160 2 [.ref x0, .int x1] ([.int y0, .ref y1]) h Q ↔ WPM 159 [.ref y1, .int y0] h (fun r h' => WP 160 5 [.ref x0, .int x1] (r.toList ++ []) h' Q)) ∧
  (∀ (x0 : Nat) (x1 : Int32) (y0 : Int32) (st : List Value) (h : AH) (Q : Option Value → AH → Prop), WP 160 5 [.ref x0, .int x1] (.int y0 :: st) h Q ↔ ((¬ y0 = 0 → WP 160 14 [.ref x0, .int x1] (st) h Q) ∧ (y0 = 0 → WP 160 8 [.ref x0, .int x1] (st) h Q))) ∧
  (∀ (x0 : Nat) (x1 : Int32) (st : List Value) (h : AH) (Q : Option Value → AH → Prop), WP 160 8 [.ref x0, .int x1] (st) h Q ↔ WP 160 9 [.ref x0, .int x1] (.ref x0 :: st) h Q) ∧
  (∀ (x0 : Nat) (x1 : Int32) (st : List Value) (h : AH) (Q : Option Value → AH → Prop), WP 160 9 [.ref x0, .int x1] (st) h Q ↔ WP 160 10 [.ref x0, .int x1] (.int (1) :: st) h Q) ∧
  (∀ (x0 : Nat) (x1 : Int32) (y1 : Nat) (y0 : Int32) (h : AH) (Q : Option Value → AH → Prop) (ht : hT h y1 = 13), WP 160 10 [.ref x0, .int x1] ([.int y0, .ref y1]) h Q ↔ WPM 157 [.ref y1, .int y0] h (fun r h' => WP 160 13 [.ref x0, .int x1] (r.toList ++ []) h' Q)) ∧
  (∀ (x0 : Nat) (x1 : Int32) (y0 : Int32) (h : AH) (Q : Option Value → AH → Prop) (hz : y0 = 0 ∨ y0 = 1), WP 160 13 [.ref x0, .int x1] ([.int y0]) h Q ↔ Q (some (.int y0)) h) ∧
  (∀ (x0 : Nat) (x1 : Int32) (st : List Value) (h : AH) (Q : Option Value → AH → Prop), WP 160 14 [.ref x0, .int x1] (st) h Q ↔ WP 160 15 [.ref x0, .int x1] (.ref x0 :: st) h Q) ∧
  (∀ (x0 : Nat) (x1 : Int32) (y0 : Nat) (h : AH) (Q : Option Value → AH → Prop) (ht : hT h y0 = 13), WP 160 15 [.ref x0, .int x1] ([.ref y0]) h Q ↔ WPM 156 [.ref y0] h (fun r h' => WP 160 18 [.ref x0, .int x1] (r.toList ++ []) h' Q)) ∧
  (∀ (x0 : Nat) (x1 : Int32) (st : List Value) (h : AH) (Q : Option Value → AH → Prop), WP 160 18 [.ref x0, .int x1] (st) h Q ↔ WP 160 19 [.ref x0, .int x1] (.int (1) :: st) h Q) ∧
  (∀ (x0 : Nat) (x1 : Int32) (y0 : Int32) (h : AH) (Q : Option Value → AH → Prop) (hz : y0 = 0 ∨ y0 = 1), WP 160 19 [.ref x0, .int x1] ([.int y0]) h Q ↔ Q (some (.int y0)) h) :=
  ⟨fun _ _ _ _ _ => WP_s (show ct 160 0 = some (.aload_n 0, 0, []) by decide +kernel) rfl,
  fun _ _ _ _ _ => WP_s (show ct 160 1 = some (.iload_n 1, 0, []) by decide +kernel) rfl,
  fun _ _ _ _ _ _ ht => WC_1 (show ct 160 2 = some (.invokevirtual 159, 3, [159, 2, 1, 13, 0, 1527, 1529, 69]) by decide +kernel) (Nat.le_of_ble_eq_true rfl) (Nat.le_of_ble_eq_true rfl) rfl rfl ht,
  fun _ _ _ _ _ _ => WZ_ne (show ct 160 5 = some (.ifCond .ne 9, 0, [14]) by decide +kernel) (by decide),
  fun _ _ _ _ _ => WP_s (show ct 160 8 = some (.aload_n 0, 0, []) by decide +kernel) rfl,
  fun _ _ _ _ _ => WP_s (show ct 160 9 = some (.iconst 1, 0, []) by decide +kernel) rfl,
  fun _ _ _ _ _ _ ht => WC_1 (show ct 160 10 = some (.invokevirtual 162, 3, [157, 2, 1, 13, 0, 1495, 1497, 62]) by decide +kernel) (Nat.le_of_ble_eq_true rfl) (Nat.le_of_ble_eq_true rfl) rfl rfl ht,
  fun _ _ _ _ _ hz => WR_z (show ct 160 13 = some (.ireturn, 2, [1]) by decide +kernel) hz,
  fun _ _ _ _ _ => WP_s (show ct 160 14 = some (.aload_n 0, 0, []) by decide +kernel) rfl,
  fun _ _ _ _ _ ht => WC_1 (show ct 160 15 = some (.invokevirtual 165, 3, [156, 1, 1, 13, 0, 1470, 1472, 58]) by decide +kernel) (Nat.le_of_ble_eq_true rfl) (Nat.le_of_ble_eq_true rfl) rfl rfl ht,
  fun _ _ _ _ _ => WP_s (show ct 160 18 = some (.iconst 1, 0, []) by decide +kernel) rfl,
  fun _ _ _ _ _ hz => WR_z (show ct 160 19 = some (.ireturn, 2, [1]) by decide +kernel) hz⟩
/-! 161: FewBowlsModel.isName()Z; loop heads [] -/
set_option maxRecDepth 10000 in
theorem w161_a : (∀ (x0 : Nat) (st : List Value) (h : AH) (Q : Option Value → AH → Prop), WP 161 0 [.ref x0] (st) h Q ↔ WP 161 1 [.ref x0] (.ref x0 :: st) h Q) ∧
  (∀ (x0 : Nat) (y0 : Nat) (st : List Value) (h : AH) (Q : Option Value → AH → Prop) (ht : hT h y0 = 13), WP 161 1 [.ref x0] (.ref y0 :: st) h Q ↔ WP 161 4 [.ref x0] (.int (hI h y0 11) :: st) h Q) ∧
  (∀ (x0 : Nat) (st : List Value) (h : AH) (Q : Option Value → AH → Prop), WP 161 4 [.ref x0] (st) h Q ↔ WP 161 5 [.ref x0] (.int (1) :: st) h Q) ∧
  (∀ (x0 : Nat) (y0 : Int32) (y1 : Int32) (st : List Value) (h : AH) (Q : Option Value → AH → Prop), WP 161 5 [.ref x0] (.int y0 :: .int y1 :: st) h Q ↔ ((¬ y1 = y0 → WP 161 89 [.ref x0] (st) h Q) ∧ (y1 = y0 → WP 161 8 [.ref x0] (st) h Q))) ∧
  (∀ (x0 : Nat) (st : List Value) (h : AH) (Q : Option Value → AH → Prop), WP 161 8 [.ref x0] (st) h Q ↔ WP 161 9 [.ref x0] (.ref x0 :: st) h Q) ∧
  (∀ (x0 : Nat) (y0 : Nat) (st : List Value) (h : AH) (Q : Option Value → AH → Prop) (ht : hT h y0 = 13), WP 161 9 [.ref x0] (.ref y0 :: st) h Q ↔ WP 161 12 [.ref x0] (.long (hJ h y0 17) :: st) h Q) ∧
  (∀ (x0 : Nat) (st : List Value) (h : AH) (Q : Option Value → AH → Prop), WP 161 12 [.ref x0] (st) h Q ↔ WP 161 15 [.ref x0] (.long (lN 7496055) :: st) h Q) ∧
  (∀ (x0 : Nat) (y0 : Int64) (y1 : Int64) (st : List Value) (h : AH) (Q : Option Value → AH → Prop), WP 161 15 [.ref x0] (.long y0 :: .long y1 :: st) h Q ↔ WP 161 16 [.ref x0] (.int (lg_cmp y1 y0) :: st) h Q) ∧
  (∀ (x0 : Nat) (y0 : Int32) (st : List Value) (h : AH) (Q : Option Value → AH → Prop), WP 161 16 [.ref x0] (.int y0 :: st) h Q ↔ ((y0 = 0 → WP 161 89 [.ref x0] (st) h Q) ∧ (¬ y0 = 0 → WP 161 19 [.ref x0] (st) h Q))) ∧
  (∀ (x0 : Nat) (st : List Value) (h : AH) (Q : Option Value → AH → Prop), WP 161 19 [.ref x0] (st) h Q ↔ WP 161 20 [.ref x0] (.ref x0 :: st) h Q) ∧
  (∀ (x0 : Nat) (y0 : Nat) (st : List Value) (h : AH) (Q : Option Value → AH → Prop) (ht : hT h y0 = 13), WP 161 20 [.ref x0] (.ref y0 :: st) h Q ↔ WP 161 23 [.ref x0] (.long (hJ h y0 17) :: st) h Q) ∧
  (∀ (x0 : Nat) (st : List Value) (h : AH) (Q : Option Value → AH → Prop), WP 161 23 [.ref x0] (st) h Q ↔ WP 161 26 [.ref x0] (.long (lN 1835101029) :: st) h Q) ∧
  (∀ (x0 : Nat) (y0 : Int64) (y1 : Int64) (st : List Value) (h : AH) (Q : Option Value → AH → Prop), WP 161 26 [.ref x0] (.long y0 :: .long y1 :: st) h Q ↔ WP 161 27 [.ref x0] (.int (lg_cmp y1 y0) :: st) h Q) ∧
  (∀ (x0 : Nat) (y0 : Int32) (st : List Value) (h : AH) (Q : Option Value → AH → Prop), WP 161 27 [.ref x0] (.int y0 :: st) h Q ↔ ((y0 = 0 → WP 161 89 [.ref x0] (st) h Q) ∧ (¬ y0 = 0 → WP 161 30 [.ref x0] (st) h Q))) ∧
  (∀ (x0 : Nat) (st : List Value) (h : AH) (Q : Option Value → AH → Prop), WP 161 30 [.ref x0] (st) h Q ↔ WP 161 31 [.ref x0] (.ref x0 :: st) h Q) ∧
  (∀ (x0 : Nat) (y0 : Nat) (st : List Value) (h : AH) (Q : Option Value → AH → Prop) (ht : hT h y0 = 13), WP 161 31 [.ref x0] (.ref y0 :: st) h Q ↔ WP 161 34 [.ref x0] (.long (hJ h y0 17) :: st) h Q) ∧
  (∀ (x0 : Nat) (st : List Value) (h : AH) (Q : Option Value → AH → Prop), WP 161 34 [.ref x0] (st) h Q ↔ WP 161 37 [.ref x0] (.long (lN 28518) :: st) h Q) ∧
  (∀ (x0 : Nat) (y0 : Int64) (y1 : Int64) (st : List Value) (h : AH) (Q : Option Value → AH → Prop), WP 161 37 [.ref x0] (.long y0 :: .long y1 :: st) h Q ↔ WP 161 38 [.ref x0] (.int (lg_cmp y1 y0) :: st) h Q) ∧
  (∀ (x0 : Nat) (y0 : Int32) (st : List Value) (h : AH) (Q : Option Value → AH → Prop), WP 161 38 [.ref x0] (.int y0 :: st) h Q ↔ ((y0 = 0 → WP 161 89 [.ref x0] (st) h Q) ∧ (¬ y0 = 0 → WP 161 41 [.ref x0] (st) h Q))) ∧
  (∀ (x0 : Nat) (st : List Value) (h : AH) (Q : Option Value → AH → Prop), WP 161 41 [.ref x0] (st) h Q ↔ WP 161 42 [.ref x0] (.ref x0 :: st) h Q) ∧
  (∀ (x0 : Nat) (y0 : Nat) (st : List Value) (h : AH) (Q : Option Value → AH → Prop) (ht : hT h y0 = 13), WP 161 42 [.ref x0] (.ref y0 :: st) h Q ↔ WP 161 45 [.ref x0] (.long (hJ h y0 17) :: st) h Q) ∧
  (∀ (x0 : Nat) (st : List Value) (h : AH) (Q : Option Value → AH → Prop), WP 161 45 [.ref x0] (st) h Q ↔ WP 161 48 [.ref x0] (.long (lN 427071599731) :: st) h Q) ∧
  (∀ (x0 : Nat) (y0 : Int64) (y1 : Int64) (st : List Value) (h : AH) (Q : Option Value → AH → Prop), WP 161 48 [.ref x0] (.long y0 :: .long y1 :: st) h Q ↔ WP 161 49 [.ref x0] (.int (lg_cmp y1 y0) :: st) h Q) ∧
  (∀ (x0 : Nat) (y0 : Int32) (st : List Value) (h : AH) (Q : Option Value → AH → Prop), WP 161 49 [.ref x0] (.int y0 :: st) h Q ↔ ((y0 = 0 → WP 161 89 [.ref x0] (st) h Q) ∧ (¬ y0 = 0 → WP 161 52 [.ref x0] (st) h Q))) ∧
  (∀ (x0 : Nat) (st : List Value) (h : AH) (Q : Option Value → AH → Prop), WP 161 52 [.ref x0] (st) h Q ↔ WP 161 53 [.ref x0] (.ref x0 :: st) h Q) ∧
  (∀ (x0 : Nat) (y0 : Nat) (st : List Value) (h : AH) (Q : Option Value → AH → Prop) (ht : hT h y0 = 13), WP 161 53 [.ref x0] (.ref y0 :: st) h Q ↔ WP 161 56 [.ref x0] (.long (hJ h y0 17) :: st) h Q) ∧
  (∀ (x0 : Nat) (st : List Value) (h : AH) (Q : Option Value → AH → Prop), WP 161 56 [.ref x0] (st) h Q ↔ WP 161 59 [.ref x0] (.long (lN 2003399528) :: st) h Q) ∧
  (∀ (x0 : Nat) (y0 : Int64) (y1 : Int64) (st : List Value) (h : AH) (Q : Option Value → AH → Prop), WP 161 59 [.ref x0] (.long y0 :: .long y1 :: st) h Q ↔ WP 161 60 [.ref x0] (.int (lg_cmp y1 y0) :: st) h Q) ∧
  (∀ (x0 : Nat) (y0 : Int32) (st : List Value) (h : AH) (Q : Option Value → AH → Prop), WP 161 60 [.ref x0] (.int y0 :: st) h Q ↔ ((y0 = 0 → WP 161 89 [.ref x0] (st) h Q) ∧ (¬ y0 = 0 → WP 161 63 [.ref x0] (st) h Q))) ∧
  (∀ (x0 : Nat) (st : List Value) (h : AH) (Q : Option Value → AH → Prop), WP 161 63 [.ref x0] (st) h Q ↔ WP 161 64 [.ref x0] (.ref x0 :: st) h Q) ∧
  (∀ (x0 : Nat) (y0 : Nat) (st : List Value) (h : AH) (Q : Option Value → AH → Prop) (ht : hT h y0 = 13), WP 161 64 [.ref x0] (.ref y0 :: st) h Q ↔ WP 161 67 [.ref x0] (.long (hJ h y0 17) :: st) h Q) ∧
  (∀ (x0 : Nat) (st : List Value) (h : AH) (Q : Option Value → AH → Prop), WP 161 67 [.ref x0] (st) h Q ↔ WP 161 70 [.ref x0] (.long (lN 2002875240) :: st) h Q) ∧
  (∀ (x0 : Nat) (y0 : Int64) (y1 : Int64) (st : List Value) (h : AH) (Q : Option Value → AH → Prop), WP 161 70 [.ref x0] (.long y0 :: .long y1 :: st) h Q ↔ WP 161 71 [.ref x0] (.int (lg_cmp y1 y0) :: st) h Q) ∧
  (∀ (x0 : Nat) (y0 : Int32) (st : List Value) (h : AH) (Q : Option Value → AH → Prop), WP 161 71 [.ref x0] (.int y0 :: st) h Q ↔ ((y0 = 0 → WP 161 89 [.ref x0] (st) h Q) ∧ (¬ y0 = 0 → WP 161 74 [.ref x0] (st) h Q))) ∧
  (∀ (x0 : Nat) (st : List Value) (h : AH) (Q : Option Value → AH → Prop), WP 161 74 [.ref x0] (st) h Q ↔ WP 161 75 [.ref x0] (.ref x0 :: st) h Q) ∧
  (∀ (x0 : Nat) (y0 : Nat) (st : List Value) (h : AH) (Q : Option Value → AH → Prop) (ht : hT h y0 = 13), WP 161 75 [.ref x0] (.ref y0 :: st) h Q ↔ WP 161 78 [.ref x0] (.long (hJ h y0 17) :: st) h Q) ∧
  (∀ (x0 : Nat) (st : List Value) (h : AH) (Q : Option Value → AH → Prop), WP 161 78 [.ref x0] (st) h Q ↔ WP 161 81 [.ref x0] (.long (lN 26990) :: st) h Q) ∧
  (∀ (x0 : Nat) (y0 : Int64) (y1 : Int64) (st : List Value) (h : AH) (Q : Option Value → AH → Prop), WP 161 81 [.ref x0] (.long y0 :: .long y1 :: st) h Q ↔ WP 161 82 [.ref x0] (.int (lg_cmp y1 y0) :: st) h Q) ∧
  (∀ (x0 : Nat) (y0 : Int32) (st : List Value) (h : AH) (Q : Option Value → AH → Prop), WP 161 82 [.ref x0] (.int y0 :: st) h Q ↔ ((y0 = 0 → WP 161 89 [.ref x0] (st) h Q) ∧ (¬ y0 = 0 → WP 161 85 [.ref x0] (st) h Q))) ∧
  (∀ (x0 : Nat) (st : List Value) (h : AH) (Q : Option Value → AH → Prop), WP 161 85 [.ref x0] (st) h Q ↔ WP 161 86 [.ref x0] (.int (1) :: st) h Q) :=
  ⟨fun _ _ _ _ => WP_s (show ct 161 0 = some (.aload_n 0, 0, []) by decide +kernel) rfl,
  fun _ _ _ _ _ ht => WH_gI (show ct 161 1 = some (.getfield 136, 1, [12, 11, 0, 1284]) by decide +kernel) (by decide) ht,
  fun _ _ _ _ => WP_s (show ct 161 4 = some (.iconst 1, 0, []) by decide +kernel) rfl,
  fun _ _ _ _ _ _ => WI_ne (show ct 161 5 = some (.if_icmp .ne 84, 0, [89]) by decide +kernel) (by decide),
  fun _ _ _ _ => WP_s (show ct 161 8 = some (.aload_n 0, 0, []) by decide +kernel) rfl,
  fun _ _ _ _ _ ht => WH_gJ (show ct 161 9 = some (.getfield 149, 1, [12, 17, 1, 1290]) by decide +kernel) ht,
  fun _ _ _ _ => WP_s (show ct 161 12 = some (.ldc2_w 168, 0, [7496055, 1488]) by decide +kernel) rfl,
  fun _ _ _ _ _ _ => WP_s (show ct 161 15 = some (.lcmp, 0, []) by decide +kernel) rfl,
  fun _ _ _ _ _ => WZ_eq (show ct 161 16 = some (.ifCond .eq 73, 0, [89]) by decide +kernel) (by decide),
  fun _ _ _ _ => WP_s (show ct 161 19 = some (.aload_n 0, 0, []) by decide +kernel) rfl,
  fun _ _ _ _ _ ht => WH_gJ (show ct 161 20 = some (.getfield 149, 1, [12, 17, 1, 1290]) by decide +kernel) ht,
  fun _ _ _ _ => WP_s (show ct 161 23 = some (.ldc2_w 170, 0, [1835101029, 1493]) by decide +kernel) rfl,
  fun _ _ _ _ _ _ => WP_s (show ct 161 26 = some (.lcmp, 0, []) by decide +kernel) rfl,
  fun _ _ _ _ _ => WZ_eq (show ct 161 27 = some (.ifCond .eq 62, 0, [89]) by decide +kernel) (by decide),
  fun _ _ _ _ => WP_s (show ct 161 30 = some (.aload_n 0, 0, []) by decide +kernel) rfl,
  fun _ _ _ _ _ ht => WH_gJ (show ct 161 31 = some (.getfield 149, 1, [12, 17, 1, 1290]) by decide +kernel) ht,
  fun _ _ _ _ => WP_s (show ct 161 34 = some (.ldc2_w 172, 0, [28518, 1507]) by decide +kernel) rfl,
  fun _ _ _ _ _ _ => WP_s (show ct 161 37 = some (.lcmp, 0, []) by decide +kernel) rfl,
  fun _ _ _ _ _ => WZ_eq (show ct 161 38 = some (.ifCond .eq 51, 0, [89]) by decide +kernel) (by decide),
  fun _ _ _ _ => WP_s (show ct 161 41 = some (.aload_n 0, 0, []) by decide +kernel) rfl,
  fun _ _ _ _ _ ht => WH_gJ (show ct 161 42 = some (.getfield 149, 1, [12, 17, 1, 1290]) by decide +kernel) ht,
  fun _ _ _ _ => WP_s (show ct 161 45 = some (.ldc2_w 174, 0, [427071599731, 1508]) by decide +kernel) rfl,
  fun _ _ _ _ _ _ => WP_s (show ct 161 48 = some (.lcmp, 0, []) by decide +kernel) rfl,
  fun _ _ _ _ _ => WZ_eq (show ct 161 49 = some (.ifCond .eq 40, 0, [89]) by decide +kernel) (by decide),
  fun _ _ _ _ => WP_s (show ct 161 52 = some (.aload_n 0, 0, []) by decide +kernel) rfl,
  fun _ _ _ _ _ ht => WH_gJ (show ct 161 53 = some (.getfield 149, 1, [12, 17, 1, 1290]) by decide +kernel) ht,
  fun _ _ _ _ => WP_s (show ct 161 56 = some (.ldc2_w 176, 0, [2003399528, 1494]) by decide +kernel) rfl,
  fun _ _ _ _ _ _ => WP_s (show ct 161 59 = some (.lcmp, 0, []) by decide +kernel) rfl,
  fun _ _ _ _ _ => WZ_eq (show ct 161 60 = some (.ifCond .eq 29, 0, [89]) by decide +kernel) (by decide),
  fun _ _ _ _ => WP_s (show ct 161 63 = some (.aload_n 0, 0, []) by decide +kernel) rfl,
  fun _ _ _ _ _ ht => WH_gJ (show ct 161 64 = some (.getfield 149, 1, [12, 17, 1, 1290]) by decide +kernel) ht,
  fun _ _ _ _ => WP_s (show ct 161 67 = some (.ldc2_w 178, 0, [2002875240, 1509]) by decide +kernel) rfl,
  fun _ _ _ _ _ _ => WP_s (show ct 161 70 = some (.lcmp, 0, []) by decide +kernel) rfl,
  fun _ _ _ _ _ => WZ_eq (show ct 161 71 = some (.ifCond .eq 18, 0, [89]) by decide +kernel) (by decide),
  fun _ _ _ _ => WP_s (show ct 161 74 = some (.aload_n 0, 0, []) by decide +kernel) rfl,
  fun _ _ _ _ _ ht => WH_gJ (show ct 161 75 = some (.getfield 149, 1, [12, 17, 1, 1290]) by decide +kernel) ht,
  fun _ _ _ _ => WP_s (show ct 161 78 = some (.ldc2_w 180, 0, [26990, 1510]) by decide +kernel) rfl,
  fun _ _ _ _ _ _ => WP_s (show ct 161 81 = some (.lcmp, 0, []) by decide +kernel) rfl,
  fun _ _ _ _ _ => WZ_eq (show ct 161 82 = some (.ifCond .eq 7, 0, [89]) by decide +kernel) (by decide),
  fun _ _ _ _ => WP_s (show ct 161 85 = some (.iconst 1, 0, []) by decide +kernel) rfl⟩
set_option maxRecDepth 10000 in
theorem w161_b : (∀ (x0 : Nat) (st : List Value) (h : AH) (Q : Option Value → AH → Prop), WP 161 86 [.ref x0] (st) h Q ↔ WP 161 90 [.ref x0] (st) h Q) ∧
  (∀ (x0 : Nat) (st : List Value) (h : AH) (Q : Option Value → AH → Prop), WP 161 89 [.ref x0] (st) h Q ↔ WP 161 90 [.ref x0] (.int (0) :: st) h Q) ∧
  (∀ (x0 : Nat) (y0 : Int32) (h : AH) (Q : Option Value → AH → Prop) (hz : y0 = 0 ∨ y0 = 1), WP 161 90 [.ref x0] ([.int y0]) h Q ↔ Q (some (.int y0)) h) :=
  ⟨fun _ _ _ _ => WP_s (show ct 161 86 = some (.goto 4, 0, [90]) by decide +kernel) rfl,
  fun _ _ _ _ => WP_s (show ct 161 89 = some (.iconst 0, 0, []) by decide +kernel) rfl,
  fun _ _ _ _ hz => WR_z (show ct 161 90 = some (.ireturn, 2, [1]) by decide +kernel) hz⟩
/-- all of 161 -/
def w161_n : Nat := 2
/-! 162: FewBowlsModel.find(I)I; loop heads [2] -/
theorem w162_2 : ∀ (x0 : Nat) (x1 : Int32) (x2 : Int32) (st : List Value) (h : AH) (Q : Option Value → AH → Prop), WP 162 2 [.ref x0, .int x1, .int x2] (st) h Q ↔ WP 162 3 [.ref x0, .int x1, .int x2] (.int x2 :: st) h Q := fun _ _ _ _ _ _ => WP_s (show ct 162 2 = some (.iload_n 2, 0, []) by decide +kernel) rfl
set_option maxRecDepth 10000 in
theorem w162 : (∀ (x0 : Nat) (x1 : Int32) (st : List Value) (h : AH) (Q : Option Value → AH → Prop), WP 162 0 [.ref x0, .int x1, .retAddr 0] (st) h Q ↔ WP 162 1 [.ref x0, .int x1, .retAddr 0] (.int (0) :: st) h Q) ∧
  (∀ (x0 : Nat) (x1 : Int32) (y0 : Int32) (st : List Value) (h : AH) (Q : Option Value → AH → Prop), WP 162 1 [.ref x0, .int x1, .retAddr 0] (.int y0 :: st) h Q ↔ WP 162 2 [.ref x0, .int x1, .int y0] (st) h Q) ∧
  (∀ (x0 : Nat) (x1 : Int32) (x2 : Int32) (st : List Value) (h : AH) (Q : Option Value → AH → Prop), WP 162 3 [.ref x0, .int x1, .int x2] (st) h Q ↔ WP 162 4 [.ref x0, .int x1, .int x2] (.ref x0 :: st) h Q) ∧
  (∀ (x0 : Nat) (x1 : Int32) (x2 : Int32) (y0 : Nat) (st : List Value) (h : AH) (Q : Option Value → AH → Prop) (ht : hT h y0 = 13), WP 162 4 [.ref x0, .int x1, .int x2] (.ref y0 :: st) h Q ↔ WP 162 7 [.ref x0, .int x1, .int x2] (.ref (hR h y0 8) :: st) h Q) ∧
  (∀ (x0 : Nat) (x1 : Int32) (x2 : Int32) (st : List Value) (h : AH) (Q : Option Value → AH → Prop), WP 162 7 [.ref x0, .int x1, .int x2] (st) h Q ↔ WP 162 8 [.ref x0, .int x1, .int x2] (.int x1 :: st) h Q) ∧
  (∀ (x0 : Nat) (x1 : Int32) (x2 : Int32) (y0 : Int32) (y1 : Nat) (st : List Value) (h : AH) (Q : Option Value → AH → Prop) (ht : hT h y1 = 100 ∨ hT h y1 = 110) (hi : inb y0 (hL h y1) = true), WP 162 8 [.ref x0, .int x1, .int x2] (.int y0 :: .ref y1 :: st) h Q ↔ WP 162 9 [.ref x0, .int x1, .int x2] (.int (hI h y1 y0.toNatClampNeg) :: st) h Q) ∧
  (∀ (x0 : Nat) (x1 : Int32) (x2 : Int32) (y0 : Int32) (y1 : Int32) (st : List Value) (h : AH) (Q : Option Value → AH → Prop), WP 162 9 [.ref x0, .int x1, .int x2] (.int y0 :: .int y1 :: st) h Q ↔ ((y0 ≤ y1 → WP 162 39 [.ref x0, .int x1, .int x2] (st) h Q) ∧ (¬ y0 ≤ y1 → WP 162 12 [.ref x0, .int x1, .int x2] (st) h Q))) ∧
  (∀ (x0 : Nat) (x1 : Int32) (x2 : Int32) (st : List Value) (h : AH) (Q : Option Value → AH → Prop), WP 162 12 [.ref x0, .int x1, .int x2] (st) h Q ↔ WP 162 13 [.ref x0, .int x1, .int x2] (.ref x0 :: st) h Q) ∧
  (∀ (x0 : Nat) (x1 : Int32) (x2 : Int32) (y0 : Nat) (st : List Value) (h : AH) (Q : Option Value → AH → Prop) (ht : hT h y0 = 13), WP 162 13 [.ref x0, .int x1, .int x2] (.ref y0 :: st) h Q ↔ WP 162 16 [.ref x0, .int x1, .int x2] (.ref (hR h y0 5) :: st) h Q) ∧
  (∀ (x0 : Nat) (x1 : Int32) (x2 : Int32) (st : List Value) (h : AH) (Q : Option Value → AH → Prop), WP 162 16 [.ref x0, .int x1, .int x2] (st) h Q ↔ WP 162 18 [.ref x0, .int x1, .int x2] (.int (14) :: st) h Q) ∧
  (∀ (x0 : Nat) (x1 : Int32) (x2 : Int32) (st : List Value) (h : AH) (Q : Option Value → AH → Prop), WP 162 18 [.ref x0, .int x1, .int x2] (st) h Q ↔ WP 162 19 [.ref x0, .int x1, .int x2] (.int x1 :: st) h Q) ∧
  (∀ (x0 : Nat) (x1 : Int32) (x2 : Int32) (y0 : Int32) (y1 : Int32) (st : List Value) (h : AH) (Q : Option Value → AH → Prop), WP 162 19 [.ref x0, .int x1, .int x2] (.int y0 :: .int y1 :: st) h Q ↔ WP 162 20 [.ref x0, .int x1, .int x2] (.int (y1 * y0) :: st) h Q) ∧
  (∀ (x0 : Nat) (x1 : Int32) (x2 : Int32) (st : List Value) (h : AH) (Q : Option Value → AH → Prop), WP 162 20 [.ref x0, .int x1, .int x2] (st) h Q ↔ WP 162 21 [.ref x0, .int x1, .int x2] (.int x2 :: st) h Q) ∧
  (∀ (x0 : Nat) (x1 : Int32) (x2 : Int32) (y0 : Int32) (y1 : Int32) (st : List Value) (h : AH) (Q : Option Value → AH → Prop), WP 162 21 [.ref x0, .int x1, .int x2] (.int y0 :: .int y1 :: st) h Q ↔ WP 162 22 [.ref x0, .int x1, .int x2] (.int (y1 + y0) :: st) h Q) ∧
  (∀ (x0 : Nat) (x1 : Int32) (x2 : Int32) (y0 : Int32) (y1 : Nat) (st : List Value) (h : AH) (Q : Option Value → AH → Prop) (ht : hT h y1 = 103) (hi : inb y0 (hL h y1) = true), WP 162 22 [.ref x0, .int x1, .int x2] (.int y0 :: .ref y1 :: st) h Q ↔ WP 162 23 [.ref x0, .int x1, .int x2] (.long (hJ h y1 y0.toNatClampNeg) :: st) h Q) ∧
  (∀ (x0 : Nat) (x1 : Int32) (x2 : Int32) (st : List Value) (h : AH) (Q : Option Value → AH → Prop), WP 162 23 [.ref x0, .int x1, .int x2] (st) h Q ↔ WP 162 24 [.ref x0, .int x1, .int x2] (.ref x0 :: st) h Q) ∧
  (∀ (x0 : Nat) (x1 : Int32) (x2 : Int32) (y0 : Nat) (st : List Value) (h : AH) (Q : Option Value → AH → Prop) (ht : hT h y0 = 13), WP 162 24 [.ref x0, .int x1, .int x2] (.ref y0 :: st) h Q ↔ WP 162 27 [.ref x0, .int x1, .int x2] (.long (hJ h y0 17) :: st) h Q) ∧
  (∀ (x0 : Nat) (x1 : Int32) (x2 : Int32) (y0 : Int64) (y1 : Int64) (st : List Value) (h : AH) (Q : Option Value → AH → Prop), WP 162 27 [.ref x0, .int x1, .int x2] (.long y0 :: .long y1 :: st) h Q ↔ WP 162 28 [.ref x0, .int x1, .int x2] (.int (lg_cmp y1 y0) :: st) h Q) ∧
  (∀ (x0 : Nat) (x1 : Int32) (x2 : Int32) (y0 : Int32) (st : List Value) (h : AH) (Q : Option Value → AH → Prop), WP 162 28 [.ref x0, .int x1, .int x2] (.int y0 :: st) h Q ↔ ((¬ y0 = 0 → WP 162 33 [.ref x0, .int x1, .int x2] (st) h Q) ∧ (y0 = 0 → WP 162 31 [.ref x0, .int x1, .int x2] (st) h Q))) ∧
  (∀ (x0 : Nat) (x1 : Int32) (x2 : Int32) (st : List Value) (h : AH) (Q : Option Value → AH → Prop), WP 162 31 [.ref x0, .int x1, .int x2] (st) h Q ↔ WP 162 32 [.ref x0, .int x1, .int x2] (.int x2 :: st) h Q) ∧
  (∀ (x0 : Nat) (x1 : Int32) (x2 : Int32) (y0 : Int32) (h : AH) (Q : Option Value → AH → Prop), WP 162 32 [.ref x0, .int x1, .int x2] ([.int y0]) h Q ↔ Q (some (.int y0)) h) ∧
  (∀ (x0 : Nat) (x1 : Int32) (x2 : Int32) (st : List Value) (h : AH) (Q : Option Value → AH → Prop), WP 162 33 [.ref x0, .int x1, .int x2] (st) h Q ↔ WP 162 36 [.ref x0, .int x1, .int (x2 + (1))] (st) h Q) ∧
  (∀ (x0 : Nat) (x1 : Int32) (x2 : Int32) (st : List Value) (h : AH) (Q : Option Value → AH → Prop), WP 162 36 [.ref x0, .int x1, .int x2] (st) h Q ↔ WP 162 2 [.ref x0, .int x1, .int x2] (st) h Q) ∧
  (∀ (x0 : Nat) (x1 : Int32) (x2 : Int32) (st : List Value) (h : AH) (Q : Option Value → AH → Prop), WP 162 39 [.ref x0, .int x1, .int x2] (st) h Q ↔ WP 162 40 [.ref x0, .int x1, .int x2] (.int (-1) :: st) h Q) ∧
  (∀ (x0 : Nat) (x1 : Int32) (x2 : Int32) (y0 : Int32) (h : AH) (Q : Option Value → AH → Prop), WP 162 40 [.ref x0, .int x1, .int x2] ([.int y0]) h Q ↔ Q (some (.int y0)) h) :=
  ⟨fun _ _ _ _ _ => WP_s (show ct 162 0 = some (.iconst 0, 0, []) by decide +kernel) rfl,
  fun _ _ _ _ _ _ => WP_s (show ct 162 1 = some (.istore_n 2, 0, []) by decide +kernel) rfl,
  fun _ _ _ _ _ _ => WP_s (show ct 162 3 = some (.aload_n 0, 0, []) by decide +kernel) rfl,
  fun _ _ _ _ _ _ _ ht => WH_gR (show ct 162 4 = some (.getfield 24, 1, [12, 8, 2, 1281]) by decide +kernel) ht,
  fun _ _ _ _ _ _ => WP_s (show ct 162 7 = some (.iload_n 1, 0, []) by decide +kernel) rfl,
  fun _ _ _ _ _ _ _ _ ht hi => WH_iald (show ct 162 8 = some (.iaload, 1, []) by decide +kernel) ht hi,
  fun _ _ _ _ _ _ _ _ => WI_ge (show ct 162 9 = some (.if_icmp .ge 30, 0, [39]) by decide +kernel) (by decide),
  fun _ _ _ _ _ _ => WP_s (show ct 162 12 = some (.aload_n 0, 0, []) by decide +kernel) rfl,
  fun _ _ _ _ _ _ _ ht => WH_gR (show ct 162 13 = some (.getfield 13, 1, [12, 5, 2, 1278]) by decide +kernel) ht,
  fun _ _ _ _ _ _ => WP_s (show ct 162 16 = some (.bipush 14, 0, []) by decide +kernel) rfl,
  fun _ _ _ _ _ _ => WP_s (show ct 162 18 = some (.iload_n 1, 0, []) by decide +kernel) rfl,
  fun _ _ _ _ _ _ _ _ => WP_s (show ct 162 19 = some (.imul, 0, []) by decide +kernel) rfl,
  fun _ _ _ _ _ _ => WP_s (show ct 162 20 = some (.iload_n 2, 0, []) by decide +kernel) rfl,
  fun _ _ _ _ _ _ _ _ => WP_s (show ct 162 21 = some (.iadd, 0, []) by decide +kernel) rfl,
  fun _ _ _ _ _ _ _ _ ht hi => WH_lald (show ct 162 22 = some (.laload, 1, []) by decide +kernel) ht hi,
  fun _ _ _ _ _ _ => WP_s (show ct 162 23 = some (.aload_n 0, 0, []) by decide +kernel) rfl,
  fun _ _ _ _ _ _ _ ht => WH_gJ (show ct 162 24 = some (.getfield 149, 1, [12, 17, 1, 1290]) by decide +kernel) ht,
  fun _ _ _ _ _ _ _ _ => WP_s (show ct 162 27 = some (.lcmp, 0, []) by decide +kernel) rfl,
  fun _ _ _ _ _ _ _ => WZ_ne (show ct 162 28 = some (.ifCond .ne 5, 0, [33]) by decide +kernel) (by decide),
  fun _ _ _ _ _ _ => WP_s (show ct 162 31 = some (.iload_n 2, 0, []) by decide +kernel) rfl,
  fun _ _ _ _ _ _ => WR_i (show ct 162 32 = some (.ireturn, 2, [0]) by decide +kernel),
  fun _ _ _ _ _ _ => WP_s (show ct 162 33 = some (.iinc 2 1, 0, []) by decide +kernel) rfl,
  fun _ _ _ _ _ _ => WP_s (show ct 162 36 = some (.goto (-34), 0, [2]) by decide +kernel) rfl,
  fun _ _ _ _ _ _ => WP_s (show ct 162 39 = some (.iconst (-1), 0, []) by decide +kernel) rfl,
  fun _ _ _ _ _ _ => WR_i (show ct 162 40 = some (.ireturn, 2, [0]) by decide +kernel)⟩
/-! 163: FewBowlsModel.read()Z; loop heads [0] -/
theorem w163_0 : ∀ (x0 : Nat) (x1 : Value) (x2 : Value) (st : List Value) (h : AH) (Q : Option Value → AH → Prop), WP 163 0 [.ref x0, x1, x2] (st) h Q ↔ WP 163 1 [.ref x0, x1, x2] (.ref x0 :: st) h Q := fun _ _ _ _ _ _ => WP_s (show ct 163 0 = some (.aload_n 0, 0, []) by decide +kernel) rfl
set_option maxRecDepth 10000 in
theorem w163_a : (∀ (x0 : Nat) (x1 : Value) (x2 : Value) (y0 : Nat) (st : List Value) (h : AH) (Q : Option Value → AH → Prop) (ht : hT h y0 = 13), WP 163 1 [.ref x0, x1, x2] (.ref y0 :: st) h Q ↔ WP 163 4 [.ref x0, x1, x2] (.int (hI h y0 11) :: st) h Q) ∧
  (∀ (x0 : Nat) (x1 : Value) (x2 : Value) (y0 : Int32) (st : List Value) (h : AH) (Q : Option Value → AH → Prop), WP 163 4 [.ref x0, x1, x2] (.int y0 :: st) h Q ↔ ((y0 = 0 → WP 163 118 [.ref x0, x1, x2] (st) h Q) ∧ (¬ y0 = 0 → WP 163 7 [.ref x0, x1, x2] (st) h Q))) ∧
  (∀ (x0 : Nat) (x1 : Value) (x2 : Value) (st : List Value) (h : AH) (Q : Option Value → AH → Prop), WP 163 7 [.ref x0, x1, x2] (st) h Q ↔ WP 163 8 [.ref x0, x1, x2] (.ref x0 :: st) h Q) ∧
  (∀ (x0 : Nat) (x1 : Value) (x2 : Value) (st : List Value) (h : AH) (Q : Option Value → AH → Prop), WP 163 8 [.ref x0, x1, x2] (st) h Q ↔ WP 163 11 [.ref x0, x1, x2] (.long (lN 7496055) :: st) h Q) ∧
  (∀ (x0 : Nat) (x1 : Value) (x2 : Value) (y1 : Nat) (y0 : Int64) (h : AH) (Q : Option Value → AH → Prop) (ht : hT h y1 = 13), WP 163 11 [.ref x0, x1, x2] ([.long y0, .ref y1]) h Q ↔ WPM 158 [.ref y1, .long y0] h (fun r h' => WP 163 14 [.ref x0, x1, x2] (r.toList ++ []) h' Q)) ∧
  (∀ (x0 : Nat) (x1 : Value) (x2 : Value) (y0 : Int32) (st : List Value) (h : AH) (Q : Option Value → AH → Prop), WP 163 14 [.ref x0, x1, x2] (.int y0 :: st) h Q ↔ WP 163 15 [.ref x0, .int y0, x2] (st) h Q) ∧
  (∀ (x0 : Nat) (x1 : Int32) (x2 : Value) (st : List Value) (h : AH) (Q : Option Value → AH → Prop), WP 163 15 [.ref x0, .int x1, x2] (st) h Q ↔ WP 163 16 [.ref x0, .int x1, x2] (.ref x0 :: st) h Q) ∧
  (∀ (x0 : Nat) (x1 : Int32) (x2 : Value) (st : List Value) (h : AH) (Q : Option Value → AH → Prop), WP 163 16 [.ref x0, .int x1, x2] (st) h Q ↔ WP 163 19 [.ref x0, .int x1, x2] (.long (lN 1835101029) :: st) h Q) ∧
  (∀ (x0 : Nat) (x1 : Int32) (x2 : Value) (y1 : Nat) (y0 : Int64) (h : AH) (Q : Option Value → AH → Prop) (ht : hT h y1 = 13), WP 163 19 [.ref x0, .int x1, x2] ([.long y0, .ref y1]) h Q ↔ WPM 158 [.ref y1, .long y0] h (fun r h' => WP 163 22 [.ref x0, .int x1, x2] (r.toList ++ []) h' Q)) ∧
  (∀ (x0 : Nat) (x1 : Int32) (x2 : Value) (y0 : Int32) (st : List Value) (h : AH) (Q : Option Value → AH → Prop), WP 163 22 [.ref x0, .int x1, x2] (.int y0 :: st) h Q ↔ WP 163 23 [.ref x0, .int x1, .int y0] (st) h Q) ∧
  (∀ (x0 : Nat) (x1 : Int32) (x2 : Int32) (st : List Value) (h : AH) (Q : Option Value → AH → Prop), WP 163 23 [.ref x0, .int x1, .int x2] (st) h Q ↔ WP 163 24 [.ref x0, .int x1, .int x2] (.int x1 :: st) h Q) ∧
  (∀ (x0 : Nat) (x1 : Int32) (x2 : Int32) (y0 : Int32) (st : List Value) (h : AH) (Q : Option Value → AH → Prop), WP 163 24 [.ref x0, .int x1, .int x2] (.int y0 :: st) h Q ↔ ((¬ y0 = 0 → WP 163 47 [.ref x0, .int x1, .int x2] (st) h Q) ∧ (y0 = 0 → WP 163 27 [.ref x0, .int x1, .int x2] (st) h Q))) ∧
  (∀ (x0 : Nat) (x1 : Int32) (x2 : Int32) (st : List Value) (h : AH) (Q : Option Value → AH → Prop), WP 163 27 [.ref x0, .int x1, .int x2] (st) h Q ↔ WP 163 28 [.ref x0, .int x1, .int x2] (.int x2 :: st) h Q) ∧
  (∀ (x0 : Nat) (x1 : Int32) (x2 : Int32) (y0 : Int32) (st : List Value) (h : AH) (Q : Option Value → AH → Prop), WP 163 28 [.ref x0, .int x1, .int x2] (.int y0 :: st) h Q ↔ ((¬ y0 = 0 → WP 163 47 [.ref x0, .int x1, .int x2] (st) h Q) ∧ (y0 = 0 → WP 163 31 [.ref x0, .int x1, .int x2] (st) h Q))) ∧
  (∀ (x0 : Nat) (x1 : Int32) (x2 : Int32) (st : List Value) (h : AH) (Q : Option Value → AH → Prop), WP 163 31 [.ref x0, .int x1, .int x2] (st) h Q ↔ WP 163 32 [.ref x0, .int x1, .int x2] (.ref x0 :: st) h Q) ∧
  (∀ (x0 : Nat) (x1 : Int32) (x2 : Int32) (st : List Value) (h : AH) (Q : Option Value → AH → Prop), WP 163 32 [.ref x0, .int x1, .int x2] (st) h Q ↔ WP 163 35 [.ref x0, .int x1, .int x2] (.long (lN 2003399528) :: st) h Q) ∧
  (∀ (x0 : Nat) (x1 : Int32) (x2 : Int32) (y1 : Nat) (y0 : Int64) (h : AH) (Q : Option Value → AH → Prop) (ht : hT h y1 = 13), WP 163 35 [.ref x0, .int x1, .int x2] ([.long y0, .ref y1]) h Q ↔ WPM 158 [.ref y1, .long y0] h (fun r h' => WP 163 38 [.ref x0, .int x1, .int x2] (r.toList ++ []) h' Q)) ∧
  (∀ (x0 : Nat) (x1 : Int32) (x2 : Int32) (y0 : Int32) (st : List Value) (h : AH) (Q : Option Value → AH → Prop), WP 163 38 [.ref x0, .int x1, .int x2] (.int y0 :: st) h Q ↔ ((¬ y0 = 0 → WP 163 47 [.ref x0, .int x1, .int x2] (st) h Q) ∧ (y0 = 0 → WP 163 41 [.ref x0, .int x1, .int x2] (st) h Q))) ∧
  (∀ (x0 : Nat) (x1 : Int32) (x2 : Int32) (st : List Value) (h : AH) (Q : Option Value → AH → Prop), WP 163 41 [.ref x0, .int x1, .int x2] (st) h Q ↔ WP 163 42 [.ref x0, .int x1, .int x2] (.ref x0 :: st) h Q) ∧
  (∀ (x0 : Nat) (x1 : Int32) (x2 : Int32) (st : List Value) (h : AH) (Q : Option Value → AH → Prop), WP 163 42 [.ref x0, .int x1, .int x2] (st) h Q ↔ WP 163 43 [.ref x0, .int x1, .int x2] (.int (1) :: st) h Q) ∧
  (∀ (x0 : Nat) (x1 : Int32) (x2 : Int32) (y1 : Nat) (y0 : Int32) (h : AH) (Q : Option Value → AH → Prop) (ht : hT h y1 = 13), WP 163 43 [.ref x0, .int x1, .int x2] ([.int y0, .ref y1]) h Q ↔ WPM 157 [.ref y1, .int y0] h (fun r h' => WP 163 46 [.ref x0, .int x1, .int x2] (r.toList ++ []) h' Q)) ∧
  (∀ (x0 : Nat) (x1 : Int32) (x2 : Int32) (y0 : Int32) (h : AH) (Q : Option Value → AH → Prop) (hz : y0 = 0 ∨ y0 = 1), WP 163 46 [.ref x0, .int x1, .int x2] ([.int y0]) h Q ↔ Q (some (.int y0)) h) ∧
  (∀ (x0 : Nat) (x1 : Int32) (x2 : Int32) (st : List Value) (h : AH) (Q : Option Value → AH → Prop), WP 163 47 [.ref x0, .int x1, .int x2] (st) h Q ↔ WP 163 48 [.ref x0, .int x1, .int x2] (.int x1 :: st) h Q) ∧
  (∀ (x0 : Nat) (x1 : Int32) (x2 : Int32) (y0 : Int32) (st : List Value) (h : AH) (Q : Option Value → AH → Prop), WP 163 48 [.ref x0, .int x1, .int x2] (.int y0 :: st) h Q ↔ ((¬ y0 = 0 → WP 163 55 [.ref x0, .int x1, .int x2] (st) h Q) ∧ (y0 = 0 → WP 163 51 [.ref x0, .int x1, .int x2] (st) h Q))) ∧
  (∀ (x0 : Nat) (x1 : Int32) (x2 : Int32) (st : List Value) (h : AH) (Q : Option Value → AH → Prop), WP 163 51 [.ref x0, .int x1, .int x2] (st) h Q ↔ WP 163 52 [.ref x0, .int x1, .int x2] (.int x2 :: st) h Q) ∧
  (∀ (x0 : Nat) (x1 : Int32) (x2 : Int32) (y0 : Int32) (st : List Value) (h : AH) (Q : Option Value → AH → Prop), WP 163 52 [.ref x0, .int x1, .int x2] (.int y0 :: st) h Q ↔ ((y0 = 0 → WP 163 72 [.ref x0, .int x1, .int x2] (st) h Q) ∧ (¬ y0 = 0 → WP 163 55 [.ref x0, .int x1, .int x2] (st) h Q))) ∧
  (∀ (x0 : Nat) (x1 : Int32) (x2 : Int32) (st : List Value) (h : AH) (Q : Option Value → AH → Prop), WP 163 55 [.ref x0, .int x1, .int x2] (st) h Q ↔ WP 163 56 [.ref x0, .int x1, .int x2] (.ref x0 :: st) h Q) ∧
  (∀ (x0 : Nat) (x1 : Int32) (x2 : Int32) (y0 : Nat) (st : List Value) (h : AH) (Q : Option Value → AH → Prop) (ht : hT h y0 = 13), WP 163 56 [.ref x0, .int x1, .int x2] (.ref y0 :: st) h Q ↔ WP 163 59 [.ref x0, .int x1, .int x2] (.ref (hR h y0 8) :: st) h Q) ∧
  (∀ (x0 : Nat) (x1 : Int32) (x2 : Int32) (st : List Value) (h : AH) (Q : Option Value → AH → Prop), WP 163 59 [.ref x0, .int x1, .int x2] (st) h Q ↔ WP 163 60 [.ref x0, .int x1, .int x2] (.int (1) :: st) h Q) ∧
  (∀ (x0 : Nat) (x1 : Int32) (x2 : Int32) (y0 : Int32) (y1 : Nat) (st : List Value) (h : AH) (Q : Option Value → AH → Prop) (ht : hT h y1 = 100 ∨ hT h y1 = 110) (hi : inb y0 (hL h y1) = true), WP 163 60 [.ref x0, .int x1, .int x2] (.int y0 :: .ref y1 :: st) h Q ↔ WP 163 61 [.ref x0, .int x1, .int x2] (.int (hI h y1 y0.toNatClampNeg) :: st) h Q) ∧
  (∀ (x0 : Nat) (x1 : Int32) (x2 : Int32) (st : List Value) (h : AH) (Q : Option Value → AH → Prop), WP 163 61 [.ref x0, .int x1, .int x2] (st) h Q ↔ WP 163 63 [.ref x0, .int x1, .int x2] (.int (14) :: st) h Q) ∧
  (∀ (x0 : Nat) (x1 : Int32) (x2 : Int32) (y0 : Int32) (y1 : Int32) (st : List Value) (h : AH) (Q : Option Value → AH → Prop), WP 163 63 [.ref x0, .int x1, .int x2] (.int y0 :: .int y1 :: st) h Q ↔ ((¬ y1 = y0 → WP 163 72 [.ref x0, .int x1, .int x2] (st) h Q) ∧ (y1 = y0 → WP 163 66 [.ref x0, .int x1, .int x2] (st) h Q))) ∧
  (∀ (x0 : Nat) (x1 : Int32) (x2 : Int32) (st : List Value) (h : AH) (Q : Option Value → AH → Prop), WP 163 66 [.ref x0, .int x1, .int x2] (st) h Q ↔ WP 163 67 [.ref x0, .int x1, .int x2] (.ref x0 :: st) h Q) ∧
  (∀ (x0 : Nat) (x1 : Int32) (x2 : Int32) (st : List Value) (h : AH) (Q : Option Value → AH → Prop), WP 163 67 [.ref x0, .int x1, .int x2] (st) h Q ↔ WP 163 68 [.ref x0, .int x1, .int x2] (.int (4) :: st) h Q) ∧
  (∀ (x0 : Nat) (x1 : Int32) (x2 : Int32) (y1 : Nat) (y0 : Int32) (h : AH) (Q : Option Value → AH → Prop) (ht : hT h y1 = 13), WP 163 68 [.ref x0, .int x1, .int x2] ([.int y0, .ref y1]) h Q ↔ WPM 157 [.ref y1, .int y0] h (fun r h' => WP 163 71 [.ref x0, .int x1, .int x2] (r.toList ++ []) h' Q)) ∧
  (∀ (x0 : Nat) (x1 : Int32) (x2 : Int32) (y0 : Int32) (h : AH) (Q : Option Value → AH → Prop) (hz : y0 = 0 ∨ y0 = 1), WP 163 71 [.ref x0, .int x1, .int x2] ([.int y0]) h Q ↔ Q (some (.int y0)) h) ∧
  (∀ (x0 : Nat) (x1 : Int32) (x2 : Int32) (st : List Value) (h : AH) (Q : Option Value → AH → Prop), WP 163 72 [.ref x0, .int x1, .int x2] (st) h Q ↔ WP 163 73 [.ref x0, .int x1, .int x2] (.ref x0 :: st) h Q) ∧
  (∀ (x0 : Nat) (x1 : Int32) (x2 : Int32) (y0 : Nat) (h : AH) (Q : Option Value → AH → Prop) (ht : hT h y0 = 13), WP 163 73 [.ref x0, .int x1, .int x2] ([.ref y0]) h Q ↔ WPM 156 [.ref y0] h (fun r h' => WP 163 76 [.ref x0, .int x1, .int x2] (r.toList ++ []) h' Q)) ∧
  (∀ (x0 : Nat) (x1 : Int32) (x2 : Int32) (st : List Value) (h : AH) (Q : Option Value → AH → Prop), WP 163 76 [.ref x0, .int x1, .int x2] (st) h Q ↔ WP 163 77 [.ref x0, .int x1, .int x2] (.int x1 :: st) h Q) ∧
  (∀ (x0 : Nat) (x1 : Int32) (x2 : Int32) (y0 : Int32) (st : List Value) (h : AH) (Q : Option Value → AH → Prop), WP 163 77 [.ref x0, .int x1, .int x2] (.int y0 :: st) h Q ↔ ((¬ y0 = 0 → WP 163 84 [.ref x0, .int x1, .int x2] (st) h Q) ∧ (y0 = 0 → WP 163 80 [.ref x0, .int x1, .int x2] (st) h Q))) :=
  ⟨fun _ _ _ _ _ _ _ ht => WH_gI (show ct 163 1 = some (.getfield 136, 1, [12, 11, 0, 1284]) by decide +kernel) (by decide) ht,
  fun _ _ _ _ _ _ _ => WZ_eq (show ct 163 4 = some (.ifCond .eq 114, 0, [118]) by decide +kernel) (by decide),
  fun _ _ _ _ _ _ => WP_s (show ct 163 7 = some (.aload_n 0, 0, []) by decide +kernel) rfl,
  fun _ _ _ _ _ _ => WP_s (show ct 163 8 = some (.ldc2_w 168, 0, [7496055, 1488]) by decide +kernel) rfl,
  fun _ _ _ _ _ _ _ ht => WC_1 (show ct 163 11 = some (.invokevirtual 182, 3, [158, 2, 1, 13, 0, 1489, 1491, 61]) by decide +kernel) (Nat.le_of_ble_eq_true rfl) (Nat.le_of_ble_eq_true rfl) rfl rfl ht,
  fun _ _ _ _ _ _ _ => WP_s (show ct 163 14 = some (.istore_n 1, 0, []) by decide +kernel) rfl,
  fun _ _ _ _ _ _ => WP_s (show ct 163 15 = some (.aload_n 0, 0, []) by decide +kernel) rfl,
  fun _ _ _ _ _ _ => WP_s (show ct 163 16 = some (.ldc2_w 170, 0, [1835101029, 1493]) by decide +kernel) rfl,
  fun _ _ _ _ _ _ _ ht => WC_1 (show ct 163 19 = some (.invokevirtual 182, 3, [158, 2, 1, 13, 0, 1489, 1491, 61]) by decide +kernel) (Nat.le_of_ble_eq_true rfl) (Nat.le_of_ble_eq_true rfl) rfl rfl ht,
  fun _ _ _ _ _ _ _ => WP_s (show ct 163 22 = some (.istore_n 2, 0, []) by decide +kernel) rfl,
  fun _ _ _ _ _ _ => WP_s (show ct 163 23 = some (.iload_n 1, 0, []) by decide +kernel) rfl,
  fun _ _ _ _ _ _ _ => WZ_ne (show ct 163 24 = some (.ifCond .ne 23, 0, [47]) by decide +kernel) (by decide),
  fun _ _ _ _ _ _ => WP_s (show ct 163 27 = some (.iload_n 2, 0, []) by decide +kernel) rfl,
  fun _ _ _ _ _ _ _ => WZ_ne (show ct 163 28 = some (.ifCond .ne 19, 0, [47]) by decide +kernel) (by decide),
  fun _ _ _ _ _ _ => WP_s (show ct 163 31 = some (.aload_n 0, 0, []) by decide +kernel) rfl,
  fun _ _ _ _ _ _ => WP_s (show ct 163 32 = some (.ldc2_w 176, 0, [2003399528, 1494]) by decide +kernel) rfl,
  fun _ _ _ _ _ _ _ ht => WC_1 (show ct 163 35 = some (.invokevirtual 182, 3, [158, 2, 1, 13, 0, 1489, 1491, 61]) by decide +kernel) (Nat.le_of_ble_eq_true rfl) (Nat.le_of_ble_eq_true rfl) rfl rfl ht,
  fun _ _ _ _ _ _ _ => WZ_ne (show ct 163 38 = some (.ifCond .ne 9, 0, [47]) by decide +kernel) (by decide),
  fun _ _ _ _ _ _ => WP_s (show ct 163 41 = some (.aload_n 0, 0, []) by decide +kernel) rfl,
  fun _ _ _ _ _ _ => WP_s (show ct 163 42 = some (.iconst 1, 0, []) by decide +kernel) rfl,
  fun _ _ _ _ _ _ _ ht => WC_1 (show ct 163 43 = some (.invokevirtual 162, 3, [157, 2, 1, 13, 0, 1495, 1497, 62]) by decide +kernel) (Nat.le_of_ble_eq_true rfl) (Nat.le_of_ble_eq_true rfl) rfl rfl ht,
  fun _ _ _ _ _ _ hz => WR_z (show ct 163 46 = some (.ireturn, 2, [1]) by decide +kernel) hz,
  fun _ _ _ _ _ _ => WP_s (show ct 163 47 = some (.iload_n 1, 0, []) by decide +kernel) rfl,
  fun _ _ _ _ _ _ _ => WZ_ne (show ct 163 48 = some (.ifCond .ne 7, 0, [55]) by decide +kernel) (by decide),
  fun _ _ _ _ _ _ => WP_s (show ct 163 51 = some (.iload_n 2, 0, []) by decide +kernel) rfl,
  fun _ _ _ _ _ _ _ => WZ_eq (show ct 163 52 = some (.ifCond .eq 20, 0, [72]) by decide +kernel) (by decide),
  fun _ _ _ _ _ _ => WP_s (show ct 163 55 = some (.aload_n 0, 0, []) by decide +kernel) rfl,
  fun _ _ _ _ _ _ _ ht => WH_gR (show ct 163 56 = some (.getfield 24, 1, [12, 8, 2, 1281]) by decide +kernel) ht,
  fun _ _ _ _ _ _ => WP_s (show ct 163 59 = some (.iconst 1, 0, []) by decide +kernel) rfl,
  fun _ _ _ _ _ _ _ _ ht hi => WH_iald (show ct 163 60 = some (.iaload, 1, []) by decide +kernel) ht hi,
  fun _ _ _ _ _ _ => WP_s (show ct 163 61 = some (.bipush 14, 0, []) by decide +kernel) rfl,
  fun _ _ _ _ _ _ _ _ => WI_ne (show ct 163 63 = some (.if_icmp .ne 9, 0, [72]) by decide +kernel) (by decide),
  fun _ _ _ _ _ _ => WP_s (show ct 163 66 = some (.aload_n 0, 0, []) by decide +kernel) rfl,
  fun _ _ _ _ _ _ => WP_s (show ct 163 67 = some (.iconst 4, 0, []) by decide +kernel) rfl,
  fun _ _ _ _ _ _ _ ht => WC_1 (show ct 163 68 = some (.invokevirtual 162, 3, [157, 2, 1, 13, 0, 1495, 1497, 62]) by decide +kernel) (Nat.le_of_ble_eq_true rfl) (Nat.le_of_ble_eq_true rfl) rfl rfl ht,
  fun _ _ _ _ _ _ hz => WR_z (show ct 163 71 = some (.ireturn, 2, [1]) by decide +kernel) hz,
  fun _ _ _ _ _ _ => WP_s (show ct 163 72 = some (.aload_n 0, 0, []) by decide +kernel) rfl,
  fun _ _ _ _ _ _ ht => WC_1 (show ct 163 73 = some (.invokevirtual 165, 3, [156, 1, 1, 13, 0, 1470, 1472, 58]) by decide +kernel) (Nat.le_of_ble_eq_true rfl) (Nat.le_of_ble_eq_true rfl) rfl rfl ht,
  fun _ _ _ _ _ _ => WP_s (show ct 163 76 = some (.iload_n 1, 0, []) by decide +kernel) rfl,
  fun _ _ _ _ _ _ _ => WZ_ne (show ct 163 77 = some (.ifCond .ne 7, 0, [84]) by decide +kernel) (by decide)⟩
set_option maxRecDepth 10000 in
theorem w163_b : (∀ (x0 : Nat) (x1 : Int32) (x2 : Int32) (st : List Value) (h : AH) (Q : Option Value → AH → Prop), WP 163 80 [.ref x0, .int x1, .int x2] (st) h Q ↔ WP 163 81 [.ref x0, .int x1, .int x2] (.int x2 :: st) h Q) ∧
  (∀ (x0 : Nat) (x1 : Int32) (x2 : Int32) (y0 : Int32) (st : List Value) (h : AH) (Q : Option Value → AH → Prop), WP 163 81 [.ref x0, .int x1, .int x2] (.int y0 :: st) h Q ↔ ((y0 = 0 → WP 163 95 [.ref x0, .int x1, .int x2] (st) h Q) ∧ (¬ y0 = 0 → WP 163 84 [.ref x0, .int x1, .int x2] (st) h Q))) ∧
  (∀ (x0 : Nat) (x1 : Int32) (x2 : Int32) (st : List Value) (h : AH) (Q : Option Value → AH → Prop), WP 163 84 [.ref x0, .int x1, .int x2] (st) h Q ↔ WP 163 85 [.ref x0, .int x1, .int x2] (.ref x0 :: st) h Q) ∧
  (∀ (x0 : Nat) (x1 : Int32) (x2 : Int32) (st : List Value) (h : AH) (Q : Option Value → AH → Prop), WP 163 85 [.ref x0, .int x1, .int x2] (st) h Q ↔ WP 163 86 [.ref x0, .int x1, .int x2] (.int x2 :: st) h Q) ∧
  (∀ (x0 : Nat) (x1 : Int32) (x2 : Int32) (y1 : Nat) (y0 : Int32) (h : AH) (Q : Option Value → AH → Prop) (ht : hT h y1 = 13), WP 163 86 [.ref x0, .int x1, .int x2] ([.int y0, .ref y1]) h Q ↔ WPM 164 [.ref y1, .int y0] h (fun r h' => WP 163 89 [.ref x0, .int x1, .int x2] (r.toList ++ []) h' Q)) ∧
  (∀ (x0 : Nat) (x1 : Int32) (x2 : Int32) (y0 : Int32) (st : List Value) (h : AH) (Q : Option Value → AH → Prop), WP 163 89 [.ref x0, .int x1, .int x2] (.int y0 :: st) h Q ↔ ((¬ y0 = 0 → WP 163 104 [.ref x0, .int x1, .int x2] (st) h Q) ∧ (y0 = 0 → WP 163 92 [.ref x0, .int x1, .int x2] (st) h Q))) ∧
  (∀ (x0 : Nat) (x1 : Int32) (x2 : Int32) (st : List Value) (h : AH) (Q : Option Value → AH → Prop), WP 163 92 [.ref x0, .int x1, .int x2] (st) h Q ↔ WP 163 102 [.ref x0, .int x1, .int x2] (st) h Q) ∧
  (∀ (x0 : Nat) (x1 : Int32) (x2 : Int32) (st : List Value) (h : AH) (Q : Option Value → AH → Prop), WP 163 95 [.ref x0, .int x1, .int x2] (st) h Q ↔ WP 163 96 [.ref x0, .int x1, .int x2] (.ref x0 :: st) h Q) ∧
  (∀ (x0 : Nat) (x1 : Int32) (x2 : Int32) (y0 : Nat) (h : AH) (Q : Option Value → AH → Prop) (ht : hT h y0 = 13), WP 163 96 [.ref x0, .int x1, .int x2] ([.ref y0]) h Q ↔ WPM 166 [.ref y0] h (fun r h' => WP 163 99 [.ref x0, .int x1, .int x2] (r.toList ++ []) h' Q)) ∧
  (∀ (x0 : Nat) (x1 : Int32) (x2 : Int32) (y0 : Int32) (st : List Value) (h : AH) (Q : Option Value → AH → Prop), WP 163 99 [.ref x0, .int x1, .int x2] (.int y0 :: st) h Q ↔ ((¬ y0 = 0 → WP 163 104 [.ref x0, .int x1, .int x2] (st) h Q) ∧ (y0 = 0 → WP 163 102 [.ref x0, .int x1, .int x2] (st) h Q))) ∧
  (∀ (x0 : Nat) (x1 : Int32) (x2 : Int32) (st : List Value) (h : AH) (Q : Option Value → AH → Prop), WP 163 102 [.ref x0, .int x1, .int x2] (st) h Q ↔ WP 163 103 [.ref x0, .int x1, .int x2] (.int (0) :: st) h Q) ∧
  (∀ (x0 : Nat) (x1 : Int32) (x2 : Int32) (y0 : Int32) (h : AH) (Q : Option Value → AH → Prop) (hz : y0 = 0 ∨ y0 = 1), WP 163 103 [.ref x0, .int x1, .int x2] ([.int y0]) h Q ↔ Q (some (.int y0)) h) ∧
  (∀ (x0 : Nat) (x1 : Int32) (x2 : Int32) (st : List Value) (h : AH) (Q : Option Value → AH → Prop), WP 163 104 [.ref x0, .int x1, .int x2] (st) h Q ↔ WP 163 105 [.ref x0, .int x1, .int x2] (.ref x0 :: st) h Q) ∧
  (∀ (x0 : Nat) (x1 : Int32) (x2 : Int32) (st : List Value) (h : AH) (Q : Option Value → AH → Prop), WP 163 105 [.ref x0, .int x1, .int x2] (st) h Q ↔ WP 163 107 [.ref x0, .int x1, .int x2] (.int (59) :: st) h Q) ∧
  (∀ (x0 : Nat) (x1 : Int32) (x2 : Int32) (y1 : Nat) (y0 : Int32) (h : AH) (Q : Option Value → AH → Prop) (ht : hT h y1 = 13), WP 163 107 [.ref x0, .int x1, .int x2] ([.int y0, .ref y1]) h Q ↔ WPM 160 [.ref y1, .int y0] h (fun r h' => WP 163 110 [.ref x0, .int x1, .int x2] (r.toList ++ []) h' Q)) ∧
  (∀ (x0 : Nat) (x1 : Int32) (x2 : Int32) (y0 : Int32) (st : List Value) (h : AH) (Q : Option Value → AH → Prop), WP 163 110 [.ref x0, .int x1, .int x2] (.int y0 :: st) h Q ↔ ((¬ y0 = 0 → WP 163 115 [.ref x0, .int x1, .int x2] (st) h Q) ∧ (y0 = 0 → WP 163 113 [.ref x0, .int x1, .int x2] (st) h Q))) ∧
  (∀ (x0 : Nat) (x1 : Int32) (x2 : Int32) (st : List Value) (h : AH) (Q : Option Value → AH → Prop), WP 163 113 [.ref x0, .int x1, .int x2] (st) h Q ↔ WP 163 114 [.ref x0, .int x1, .int x2] (.int (0) :: st) h Q) ∧
  (∀ (x0 : Nat) (x1 : Int32) (x2 : Int32) (y0 : Int32) (h : AH) (Q : Option Value → AH → Prop) (hz : y0 = 0 ∨ y0 = 1), WP 163 114 [.ref x0, .int x1, .int x2] ([.int y0]) h Q ↔ Q (some (.int y0)) h) ∧
  (∀ (x0 : Nat) (x1 : Int32) (x2 : Int32) (st : List Value) (h : AH) (Q : Option Value → AH → Prop), WP 163 115 [.ref x0, .int x1, .int x2] (st) h Q ↔ WP 163 0 [.ref x0, .int x1, .int x2] (st) h Q) ∧
  (∀ (x0 : Nat) (x1 : Value) (x2 : Value) (st : List Value) (h : AH) (Q : Option Value → AH → Prop), WP 163 118 [.ref x0, x1, x2] (st) h Q ↔ WP 163 119 [.ref x0, x1, x2] (.ref x0 :: st) h Q) ∧
  (∀ (x0 : Nat) (x1 : Value) (x2 : Value) (y0 : Nat) (st : List Value) (h : AH) (Q : Option Value → AH → Prop) (ht : hT h y0 = 13), WP 163 119 [.ref x0, x1, x2] (.ref y0 :: st) h Q ↔ WP 163 122 [.ref x0, x1, x2] (.ref (hR h y0 9) :: st) h Q) ∧
  (∀ (x0 : Nat) (x1 : Value) (x2 : Value) (st : List Value) (h : AH) (Q : Option Value → AH → Prop), WP 163 122 [.ref x0, x1, x2] (st) h Q ↔ WP 163 123 [.ref x0, x1, x2] (.int (1) :: st) h Q) ∧
  (∀ (x0 : Nat) (x1 : Value) (x2 : Value) (y0 : Int32) (y1 : Nat) (st : List Value) (h : AH) (Q : Option Value → AH → Prop) (ht : hT h y1 = 100 ∨ hT h y1 = 110) (hi : inb y0 (hL h y1) = true), WP 163 123 [.ref x0, x1, x2] (.int y0 :: .ref y1 :: st) h Q ↔ WP 163 124 [.ref x0, x1, x2] (.int (hI h y1 y0.toNatClampNeg) :: st) h Q) ∧
  (∀ (x0 : Nat) (x1 : Value) (x2 : Value) (y0 : Int32) (st : List Value) (h : AH) (Q : Option Value → AH → Prop), WP 163 124 [.ref x0, x1, x2] (.int y0 :: st) h Q ↔ ((¬ y0 = 0 → WP 163 135 [.ref x0, x1, x2] (st) h Q) ∧ (y0 = 0 → WP 163 127 [.ref x0, x1, x2] (st) h Q))) ∧
  (∀ (x0 : Nat) (x1 : Value) (x2 : Value) (st : List Value) (h : AH) (Q : Option Value → AH → Prop), WP 163 127 [.ref x0, x1, x2] (st) h Q ↔ WP 163 128 [.ref x0, x1, x2] (.ref x0 :: st) h Q) ∧
  (∀ (x0 : Nat) (x1 : Value) (x2 : Value) (st : List Value) (h : AH) (Q : Option Value → AH → Prop), WP 163 128 [.ref x0, x1, x2] (st) h Q ↔ WP 163 129 [.ref x0, x1, x2] (.int (1) :: st) h Q) ∧
  (∀ (x0 : Nat) (x1 : Value) (x2 : Value) (y1 : Nat) (y0 : Int32) (h : AH) (Q : Option Value → AH → Prop) (ht : hT h y1 = 13), WP 163 129 [.ref x0, x1, x2] ([.int y0, .ref y1]) h Q ↔ WPM 157 [.ref y1, .int y0] h (fun r h' => WP 163 132 [.ref x0, x1, x2] (r.toList ++ []) h' Q)) ∧
  (∀ (x0 : Nat) (x1 : Value) (x2 : Value) (y0 : Int32) (st : List Value) (h : AH) (Q : Option Value → AH → Prop), WP 163 132 [.ref x0, x1, x2] (.int y0 :: st) h Q ↔ ((y0 = 0 → WP 163 139 [.ref x0, x1, x2] (st) h Q) ∧ (¬ y0 = 0 → WP 163 135 [.ref x0, x1, x2] (st) h Q))) ∧
  (∀ (x0 : Nat) (x1 : Value) (x2 : Value) (st : List Value) (h : AH) (Q : Option Value → AH → Prop), WP 163 135 [.ref x0, x1, x2] (st) h Q ↔ WP 163 136 [.ref x0, x1, x2] (.int (1) :: st) h Q) ∧
  (∀ (x0 : Nat) (x1 : Value) (x2 : Value) (st : List Value) (h : AH) (Q : Option Value → AH → Prop), WP 163 136 [.ref x0, x1, x2] (st) h Q ↔ WP 163 140 [.ref x0, x1, x2] (st) h Q) ∧
  (∀ (x0 : Nat) (x1 : Value) (x2 : Value) (st : List Value) (h : AH) (Q : Option Value → AH → Prop), WP 163 139 [.ref x0, x1, x2] (st) h Q ↔ WP 163 140 [.ref x0, x1, x2] (.int (0) :: st) h Q) ∧
  (∀ (x0 : Nat) (x1 : Value) (x2 : Value) (y0 : Int32) (h : AH) (Q : Option Value → AH → Prop) (hz : y0 = 0 ∨ y0 = 1), WP 163 140 [.ref x0, x1, x2] ([.int y0]) h Q ↔ Q (some (.int y0)) h) :=
  ⟨fun _ _ _ _ _ _ => WP_s (show ct 163 80 = some (.iload_n 2, 0, []) by decide +kernel) rfl,
  fun _ _ _ _ _ _ _ => WZ_eq (show ct 163 81 = some (.ifCond .eq 14, 0, [95]) by decide +kernel) (by decide),
  fun _ _ _ _ _ _ => WP_s (show ct 163 84 = some (.aload_n 0, 0, []) by decide +kernel) rfl,
  fun _ _ _ _ _ _ => WP_s (show ct 163 85 = some (.iload_n 2, 0, []) by decide +kernel) rfl,
  fun _ _ _ _ _ _ _ ht => WC_1 (show ct 163 86 = some (.invokevirtual 186, 3, [164, 2, 1, 13, 0, 1499, 1501, 63]) by decide +kernel) (Nat.le_of_ble_eq_true rfl) (Nat.le_of_ble_eq_true rfl) rfl rfl ht,
  fun _ _ _ _ _ _ _ => WZ_ne (show ct 163 89 = some (.ifCond .ne 15, 0, [104]) by decide +kernel) (by decide),
  fun _ _ _ _ _ _ => WP_s (show ct 163 92 = some (.goto 10, 0, [102]) by decide +kernel) rfl,
  fun _ _ _ _ _ _ => WP_s (show ct 163 95 = some (.aload_n 0, 0, []) by decide +kernel) rfl,
  fun _ _ _ _ _ _ ht => WC_1 (show ct 163 96 = some (.invokevirtual 190, 3, [166, 1, 1, 13, 0, 1519, 1521, 67]) by decide +kernel) (Nat.le_of_ble_eq_true rfl) (Nat.le_of_ble_eq_true rfl) rfl rfl ht,
  fun _ _ _ _ _ _ _ => WZ_ne (show ct 163 99 = some (.ifCond .ne 5, 0, [104]) by decide +kernel) (by decide),
  fun _ _ _ _ _ _ => WP_s (show ct 163 102 = some (.iconst 0, 0, []) by decide +kernel) rfl,
  fun _ _ _ _ _ _ hz => WR_z (show ct 163 103 = some (.ireturn, 2, [1]) by decide +kernel) hz,
  fun _ _ _ _ _ _ => WP_s (show ct 163 104 = some (.aload_n 0, 0, []) by decide +kernel) rfl,
  fun _ _ _ _ _ _ => WP_s (show ct 163 105 = some (.bipush 59, 0, []) by decide +kernel) rfl,
  fun _ _ _ _ _ _ _ ht => WC_1 (show ct 163 107 = some (.invokevirtual 194, 3, [160, 2, 1, 13, 0, 1523, 1525, 68]) by decide +kernel) (Nat.le_of_ble_eq_true rfl) (Nat.le_of_ble_eq_true rfl) rfl rfl ht,
  fun _ _ _ _ _ _ _ => WZ_ne (show ct 163 110 = some (.ifCond .ne 5, 0, [115]) by decide +kernel) (by decide),
  fun _ _ _ _ _ _ => WP_s (show ct 163 113 = some (.iconst 0, 0, []) by decide +kernel) rfl,
  fun _ _ _ _ _ _ hz => WR_z (show ct 163 114 = some (.ireturn, 2, [1]) by decide +kernel) hz,
  fun _ _ _ _ _ _ => WP_s (show ct 163 115 = some (.goto (-115), 0, [0]) by decide +kernel) rfl,
  fun _ _ _ _ _ _ => WP_s (show ct 163 118 = some (.aload_n 0, 0, []) by decide +kernel) rfl,
  fun _ _ _ _ _ _ _ ht => WH_gR (show ct 163 119 = some (.getfield 27, 1, [12, 9, 2, 1282]) by decide +kernel) ht,
  fun _ _ _ _ _ _ => WP_s (show ct 163 122 = some (.iconst 1, 0, []) by decide +kernel) rfl,
  fun _ _ _ _ _ _ _ _ ht hi => WH_iald (show ct 163 123 = some (.iaload, 1, []) by decide +kernel) ht hi,
  fun _ _ _ _ _ _ _ => WZ_ne (show ct 163 124 = some (.ifCond .ne 11, 0, [135]) by decide +kernel) (by decide),
  fun _ _ _ _ _ _ => WP_s (show ct 163 127 = some (.aload_n 0, 0, []) by decide +kernel) rfl,
  fun _ _ _ _ _ _ => WP_s (show ct 163 128 = some (.iconst 1, 0, []) by decide +kernel) rfl,
  fun _ _ _ _ _ _ _ ht => WC_1 (show ct 163 129 = some (.invokevirtual 162, 3, [157, 2, 1, 13, 0, 1495, 1497, 62]) by decide +kernel) (Nat.le_of_ble_eq_true rfl) (Nat.le_of_ble_eq_true rfl) rfl rfl ht,
  fun _ _ _ _ _ _ _ => WZ_eq (show ct 163 132 = some (.ifCond .eq 7, 0, [139]) by decide +kernel) (by decide),
  fun _ _ _ _ _ _ => WP_s (show ct 163 135 = some (.iconst 1, 0, []) by decide +kernel) rfl,
  fun _ _ _ _ _ _ => WP_s (show ct 163 136 = some (.goto 4, 0, [140]) by decide +kernel) rfl,
  fun _ _ _ _ _ _ => WP_s (show ct 163 139 = some (.iconst 0, 0, []) by decide +kernel) rfl,
  fun _ _ _ _ _ _ hz => WR_z (show ct 163 140 = some (.ireturn, 2, [1]) by decide +kernel) hz⟩
/-- all of 163 -/
def w163_n : Nat := 2
/-! 164: FewBowlsModel.thing(Z)Z; loop heads [] -/
set_option maxRecDepth 10000 in
theorem w164_a : (∀ (x0 : Nat) (x1 : Int32) (st : List Value) (h : AH) (Q : Option Value → AH → Prop), WP 164 0 [.ref x0, .int x1, .retAddr 0, .retAddr 0, .retAddr 0] (st) h Q ↔ WP 164 1 [.ref x0, .int x1, .retAddr 0, .retAddr 0, .retAddr 0] (.ref x0 :: st) h Q) ∧
  (∀ (x0 : Nat) (x1 : Int32) (y0 : Nat) (h : AH) (Q : Option Value → AH → Prop) (ht : hT h y0 = 13), WP 164 1 [.ref x0, .int x1, .retAddr 0, .retAddr 0, .retAddr 0] ([.ref y0]) h Q ↔ WPM 161 [.ref y0] h (fun r h' => WP 164 4 [.ref x0, .int x1, .retAddr 0, .retAddr 0, .retAddr 0] (r.toList ++ []) h' Q)) ∧
  (∀ (x0 : Nat) (x1 : Int32) (y0 : Int32) (st : List Value) (h : AH) (Q : Option Value → AH → Prop), WP 164 4 [.ref x0, .int x1, .retAddr 0, .retAddr 0, .retAddr 0] (.int y0 :: st) h Q ↔ ((¬ y0 = 0 → WP 164 13 [.ref x0, .int x1, .retAddr 0, .retAddr 0, .retAddr 0] (st) h Q) ∧ (y0 = 0 → WP 164 7 [.ref x0, .int x1, .retAddr 0, .retAddr 0, .retAddr 0] (st) h Q))) ∧
  (∀ (x0 : Nat) (x1 : Int32) (st : List Value) (h : AH) (Q : Option Value → AH → Prop), WP 164 7 [.ref x0, .int x1, .retAddr 0, .retAddr 0, .retAddr 0] (st) h Q ↔ WP 164 8 [.ref x0, .int x1, .retAddr 0, .retAddr 0, .retAddr 0] (.ref x0 :: st) h Q) ∧
  (∀ (x0 : Nat) (x1 : Int32) (st : List Value) (h : AH) (Q : Option Value → AH → Prop), WP 164 8 [.ref x0, .int x1, .retAddr 0, .retAddr 0, .retAddr 0] (st) h Q ↔ WP 164 9 [.ref x0, .int x1, .retAddr 0, .retAddr 0, .retAddr 0] (.int (1) :: st) h Q) ∧
  (∀ (x0 : Nat) (x1 : Int32) (y1 : Nat) (y0 : Int32) (h : AH) (Q : Option Value → AH → Prop) (ht : hT h y1 = 13), WP 164 9 [.ref x0, .int x1, .retAddr 0, .retAddr 0, .retAddr 0] ([.int y0, .ref y1]) h Q ↔ WPM 157 [.ref y1, .int y0] h (fun r h' => WP 164 12 [.ref x0, .int x1, .retAddr 0, .retAddr 0, .retAddr 0] (r.toList ++ []) h' Q)) ∧
  (∀ (x0 : Nat) (x1 : Int32) (y0 : Int32) (h : AH) (Q : Option Value → AH → Prop) (hz : y0 = 0 ∨ y0 = 1), WP 164 12 [.ref x0, .int x1, .retAddr 0, .retAddr 0, .retAddr 0] ([.int y0]) h Q ↔ Q (some (.int y0)) h) ∧
  (∀ (x0 : Nat) (x1 : Int32) (st : List Value) (h : AH) (Q : Option Value → AH → Prop), WP 164 13 [.ref x0, .int x1, .retAddr 0, .retAddr 0, .retAddr 0] (st) h Q ↔ WP 164 14 [.ref x0, .int x1, .retAddr 0, .retAddr 0, .retAddr 0] (.ref x0 :: st) h Q) ∧
  (∀ (x0 : Nat) (x1 : Int32) (st : List Value) (h : AH) (Q : Option Value → AH → Prop), WP 164 14 [.ref x0, .int x1, .retAddr 0, .retAddr 0, .retAddr 0] (st) h Q ↔ WP 164 15 [.ref x0, .int x1, .retAddr 0, .retAddr 0, .retAddr 0] (.int (1) :: st) h Q) ∧
  (∀ (x0 : Nat) (x1 : Int32) (y1 : Nat) (y0 : Int32) (h : AH) (Q : Option Value → AH → Prop) (ht : hT h y1 = 13), WP 164 15 [.ref x0, .int x1, .retAddr 0, .retAddr 0, .retAddr 0] ([.int y0, .ref y1]) h Q ↔ WPM 162 [.ref y1, .int y0] h (fun r h' => WP 164 18 [.ref x0, .int x1, .retAddr 0, .retAddr 0, .retAddr 0] (r.toList ++ []) h' Q)) ∧
  (∀ (x0 : Nat) (x1 : Int32) (y0 : Int32) (st : List Value) (h : AH) (Q : Option Value → AH → Prop), WP 164 18 [.ref x0, .int x1, .retAddr 0, .retAddr 0, .retAddr 0] (.int y0 :: st) h Q ↔ ((y0 < 0 → WP 164 27 [.ref x0, .int x1, .retAddr 0, .retAddr 0, .retAddr 0] (st) h Q) ∧ (¬ y0 < 0 → WP 164 21 [.ref x0, .int x1, .retAddr 0, .retAddr 0, .retAddr 0] (st) h Q))) ∧
  (∀ (x0 : Nat) (x1 : Int32) (st : List Value) (h : AH) (Q : Option Value → AH → Prop), WP 164 21 [.ref x0, .int x1, .retAddr 0, .retAddr 0, .retAddr 0] (st) h Q ↔ WP 164 22 [.ref x0, .int x1, .retAddr 0, .retAddr 0, .retAddr 0] (.ref x0 :: st) h Q) ∧
  (∀ (x0 : Nat) (x1 : Int32) (st : List Value) (h : AH) (Q : Option Value → AH → Prop), WP 164 22 [.ref x0, .int x1, .retAddr 0, .retAddr 0, .retAddr 0] (st) h Q ↔ WP 164 23 [.ref x0, .int x1, .retAddr 0, .retAddr 0, .retAddr 0] (.int (3) :: st) h Q) ∧
  (∀ (x0 : Nat) (x1 : Int32) (y1 : Nat) (y0 : Int32) (h : AH) (Q : Option Value → AH → Prop) (ht : hT h y1 = 13), WP 164 23 [.ref x0, .int x1, .retAddr 0, .retAddr 0, .retAddr 0] ([.int y0, .ref y1]) h Q ↔ WPM 157 [.ref y1, .int y0] h (fun r h' => WP 164 26 [.ref x0, .int x1, .retAddr 0, .retAddr 0, .retAddr 0] (r.toList ++ []) h' Q)) ∧
  (∀ (x0 : Nat) (x1 : Int32) (y0 : Int32) (h : AH) (Q : Option Value → AH → Prop) (hz : y0 = 0 ∨ y0 = 1), WP 164 26 [.ref x0, .int x1, .retAddr 0, .retAddr 0, .retAddr 0] ([.int y0]) h Q ↔ Q (some (.int y0)) h) ∧
  (∀ (x0 : Nat) (x1 : Int32) (st : List Value) (h : AH) (Q : Option Value → AH → Prop), WP 164 27 [.ref x0, .int x1, .retAddr 0, .retAddr 0, .retAddr 0] (st) h Q ↔ WP 164 29 [.ref x0, .int x1, .retAddr 0, .retAddr 0, .retAddr 0] (.int (14) :: st) h Q) ∧
  (∀ (x0 : Nat) (x1 : Int32) (st : List Value) (h : AH) (Q : Option Value → AH → Prop), WP 164 29 [.ref x0, .int x1, .retAddr 0, .retAddr 0, .retAddr 0] (st) h Q ↔ WP 164 30 [.ref x0, .int x1, .retAddr 0, .retAddr 0, .retAddr 0] (.ref x0 :: st) h Q) ∧
  (∀ (x0 : Nat) (x1 : Int32) (y0 : Nat) (st : List Value) (h : AH) (Q : Option Value → AH → Prop) (ht : hT h y0 = 13), WP 164 30 [.ref x0, .int x1, .retAddr 0, .retAddr 0, .retAddr 0] (.ref y0 :: st) h Q ↔ WP 164 33 [.ref x0, .int x1, .retAddr 0, .retAddr 0, .retAddr 0] (.ref (hR h y0 8) :: st) h Q) ∧
  (∀ (x0 : Nat) (x1 : Int32) (st : List Value) (h : AH) (Q : Option Value → AH → Prop), WP 164 33 [.ref x0, .int x1, .retAddr 0, .retAddr 0, .retAddr 0] (st) h Q ↔ WP 164 34 [.ref x0, .int x1, .retAddr 0, .retAddr 0, .retAddr 0] (.int (1) :: st) h Q) ∧
  (∀ (x0 : Nat) (x1 : Int32) (y0 : Int32) (y1 : Nat) (st : List Value) (h : AH) (Q : Option Value → AH → Prop) (ht : hT h y1 = 100 ∨ hT h y1 = 110) (hi : inb y0 (hL h y1) = true), WP 164 34 [.ref x0, .int x1, .retAddr 0, .retAddr 0, .retAddr 0] (.int y0 :: .ref y1 :: st) h Q ↔ WP 164 35 [.ref x0, .int x1, .retAddr 0, .retAddr 0, .retAddr 0] (.int (hI h y1 y0.toNatClampNeg) :: st) h Q) ∧
  (∀ (x0 : Nat) (x1 : Int32) (y0 : Int32) (y1 : Int32) (st : List Value) (h : AH) (Q : Option Value → AH → Prop), WP 164 35 [.ref x0, .int x1, .retAddr 0, .retAddr 0, .retAddr 0] (.int y0 :: .int y1 :: st) h Q ↔ WP 164 36 [.ref x0, .int x1, .retAddr 0, .retAddr 0, .retAddr 0] (.int (y1 + y0) :: st) h Q) ∧
  (∀ (x0 : Nat) (x1 : Int32) (y0 : Int32) (st : List Value) (h : AH) (Q : Option Value → AH → Prop), WP 164 36 [.ref x0, .int x1, .retAddr 0, .retAddr 0, .retAddr 0] (.int y0 :: st) h Q ↔ WP 164 37 [.ref x0, .int x1, .int y0, .retAddr 0, .retAddr 0] (st) h Q) ∧
  (∀ (x0 : Nat) (x1 : Int32) (x2 : Int32) (st : List Value) (h : AH) (Q : Option Value → AH → Prop), WP 164 37 [.ref x0, .int x1, .int x2, .retAddr 0, .retAddr 0] (st) h Q ↔ WP 164 38 [.ref x0, .int x1, .int x2, .retAddr 0, .retAddr 0] (.ref x0 :: st) h Q) ∧
  (∀ (x0 : Nat) (x1 : Int32) (x2 : Int32) (y0 : Nat) (st : List Value) (h : AH) (Q : Option Value → AH → Prop) (ht : hT h y0 = 13), WP 164 38 [.ref x0, .int x1, .int x2, .retAddr 0, .retAddr 0] (.ref y0 :: st) h Q ↔ WP 164 41 [.ref x0, .int x1, .int x2, .retAddr 0, .retAddr 0] (.long (hJ h y0 17) :: st) h Q) ∧
  (∀ (x0 : Nat) (x1 : Int32) (x2 : Int32) (y0 : Int64) (st : List Value) (h : AH) (Q : Option Value → AH → Prop), WP 164 41 [.ref x0, .int x1, .int x2, .retAddr 0, .retAddr 0] (.long y0 :: st) h Q ↔ WP 164 42 [.ref x0, .int x1, .int x2, .long y0, .retAddr 0] (st) h Q) ∧
  (∀ (x0 : Nat) (x1 : Int32) (x2 : Int32) (x3 : Int64) (st : List Value) (h : AH) (Q : Option Value → AH → Prop), WP 164 42 [.ref x0, .int x1, .int x2, .long x3, .retAddr 0] (st) h Q ↔ WP 164 43 [.ref x0, .int x1, .int x2, .long x3, .retAddr 0] (.ref x0 :: st) h Q) ∧
  (∀ (x0 : Nat) (x1 : Int32) (x2 : Int32) (x3 : Int64) (y0 : Nat) (st : List Value) (h : AH) (Q : Option Value → AH → Prop) (ht : hT h y0 = 13), WP 164 43 [.ref x0, .int x1, .int x2, .long x3, .retAddr 0] (.ref y0 :: st) h Q ↔ WP 164 46 [.ref x0, .int x1, .int x2, .long x3, .retAddr 0] (.ref (hR h y0 6) :: st) h Q) ∧
  (∀ (x0 : Nat) (x1 : Int32) (x2 : Int32) (x3 : Int64) (st : List Value) (h : AH) (Q : Option Value → AH → Prop), WP 164 46 [.ref x0, .int x1, .int x2, .long x3, .retAddr 0] (st) h Q ↔ WP 164 47 [.ref x0, .int x1, .int x2, .long x3, .retAddr 0] (.int x2 :: st) h Q) ∧
  (∀ (x0 : Nat) (x1 : Int32) (x2 : Int32) (x3 : Int64) (st : List Value) (h : AH) (Q : Option Value → AH → Prop), WP 164 47 [.ref x0, .int x1, .int x2, .long x3, .retAddr 0] (st) h Q ↔ WP 164 48 [.ref x0, .int x1, .int x2, .long x3, .retAddr 0] (.int (0) :: st) h Q) ∧
  (∀ (x0 : Nat) (x1 : Int32) (x2 : Int32) (x3 : Int64) (y0 : Int32) (y1 : Int32) (y2 : Nat) (st : List Value) (h : AH) (Q : Option Value → AH → Prop) (ht : hT h y2 = 100) (hi : inb y1 (hL h y2) = true), WP 164 48 [.ref x0, .int x1, .int x2, .long x3, .retAddr 0] (.int y0 :: .int y1 :: .ref y2 :: st) h Q ↔ WP 164 49 [.ref x0, .int x1, .int x2, .long x3, .retAddr 0] (st) (sI h y2 y1.toNatClampNeg y0) Q) ∧
  (∀ (x0 : Nat) (x1 : Int32) (x2 : Int32) (x3 : Int64) (st : List Value) (h : AH) (Q : Option Value → AH → Prop), WP 164 49 [.ref x0, .int x1, .int x2, .long x3, .retAddr 0] (st) h Q ↔ WP 164 50 [.ref x0, .int x1, .int x2, .long x3, .retAddr 0] (.ref x0 :: st) h Q) ∧
  (∀ (x0 : Nat) (x1 : Int32) (x2 : Int32) (x3 : Int64) (y0 : Nat) (st : List Value) (h : AH) (Q : Option Value → AH → Prop) (ht : hT h y0 = 13), WP 164 50 [.ref x0, .int x1, .int x2, .long x3, .retAddr 0] (.ref y0 :: st) h Q ↔ WP 164 53 [.ref x0, .int x1, .int x2, .long x3, .retAddr 0] (.ref (hR h y0 7) :: st) h Q) ∧
  (∀ (x0 : Nat) (x1 : Int32) (x2 : Int32) (x3 : Int64) (st : List Value) (h : AH) (Q : Option Value → AH → Prop), WP 164 53 [.ref x0, .int x1, .int x2, .long x3, .retAddr 0] (st) h Q ↔ WP 164 54 [.ref x0, .int x1, .int x2, .long x3, .retAddr 0] (.int x2 :: st) h Q) ∧
  (∀ (x0 : Nat) (x1 : Int32) (x2 : Int32) (x3 : Int64) (st : List Value) (h : AH) (Q : Option Value → AH → Prop), WP 164 54 [.ref x0, .int x1, .int x2, .long x3, .retAddr 0] (st) h Q ↔ WP 164 55 [.ref x0, .int x1, .int x2, .long x3, .retAddr 0] (.int (1) :: st) h Q) ∧
  (∀ (x0 : Nat) (x1 : Int32) (x2 : Int32) (x3 : Int64) (y0 : Int32) (y1 : Int32) (y2 : Nat) (st : List Value) (h : AH) (Q : Option Value → AH → Prop) (ht : hT h y2 = 100) (hi : inb y1 (hL h y2) = true), WP 164 55 [.ref x0, .int x1, .int x2, .long x3, .retAddr 0] (.int y0 :: .int y1 :: .ref y2 :: st) h Q ↔ WP 164 56 [.ref x0, .int x1, .int x2, .long x3, .retAddr 0] (st) (sI h y2 y1.toNatClampNeg y0) Q) ∧
  (∀ (x0 : Nat) (x1 : Int32) (x2 : Int32) (x3 : Int64) (st : List Value) (h : AH) (Q : Option Value → AH → Prop), WP 164 56 [.ref x0, .int x1, .int x2, .long x3, .retAddr 0] (st) h Q ↔ WP 164 57 [.ref x0, .int x1, .int x2, .long x3, .retAddr 0] (.ref x0 :: st) h Q) ∧
  (∀ (x0 : Nat) (x1 : Int32) (x2 : Int32) (x3 : Int64) (y0 : Nat) (st : List Value) (h : AH) (Q : Option Value → AH → Prop) (ht : hT h y0 = 13), WP 164 57 [.ref x0, .int x1, .int x2, .long x3, .retAddr 0] (.ref y0 :: st) h Q ↔ WP 164 60 [.ref x0, .int x1, .int x2, .long x3, .retAddr 0] (.ref (hR h y0 10) :: st) h Q) ∧
  (∀ (x0 : Nat) (x1 : Int32) (x2 : Int32) (x3 : Int64) (st : List Value) (h : AH) (Q : Option Value → AH → Prop), WP 164 60 [.ref x0, .int x1, .int x2, .long x3, .retAddr 0] (st) h Q ↔ WP 164 61 [.ref x0, .int x1, .int x2, .long x3, .retAddr 0] (.int x2 :: st) h Q) ∧
  (∀ (x0 : Nat) (x1 : Int32) (x2 : Int32) (x3 : Int64) (st : List Value) (h : AH) (Q : Option Value → AH → Prop), WP 164 61 [.ref x0, .int x1, .int x2, .long x3, .retAddr 0] (st) h Q ↔ WP 164 62 [.ref x0, .int x1, .int x2, .long x3, .retAddr 0] (.int x1 :: st) h Q) ∧
  (∀ (x0 : Nat) (x1 : Int32) (x2 : Int32) (x3 : Int64) (y0 : Int32) (st : List Value) (h : AH) (Q : Option Value → AH → Prop), WP 164 62 [.ref x0, .int x1, .int x2, .long x3, .retAddr 0] (.int y0 :: st) h Q ↔ ((¬ y0 = 0 → WP 164 69 [.ref x0, .int x1, .int x2, .long x3, .retAddr 0] (st) h Q) ∧ (y0 = 0 → WP 164 65 [.ref x0, .int x1, .int x2, .long x3, .retAddr 0] (st) h Q))) :=
  ⟨fun _ _ _ _ _ => WP_s (show ct 164 0 = some (.aload_n 0, 0, []) by decide +kernel) rfl,
  fun _ _ _ _ _ ht => WC_1 (show ct 164 1 = some (.invokevirtual 197, 3, [161, 1, 1, 13, 0, 1503, 1505, 64]) by decide +kernel) (Nat.le_of_ble_eq_true rfl) (Nat.le_of_ble_eq_true rfl) rfl rfl ht,
  fun _ _ _ _ _ _ => WZ_ne (show ct 164 4 = some (.ifCond .ne 9, 0, [13]) by decide +kernel) (by decide),
  fun _ _ _ _ _ => WP_s (show ct 164 7 = some (.aload_n 0, 0, []) by decide +kernel) rfl,
  fun _ _ _ _ _ => WP_s (show ct 164 8 = some (.iconst 1, 0, []) by decide +kernel) rfl,
  fun _ _ _ _ _ _ ht => WC_1 (show ct 164 9 = some (.invokevirtual 162, 3, [157, 2, 1, 13, 0, 1495, 1497, 62]) by decide +kernel) (Nat.le_of_ble_eq_true rfl) (Nat.le_of_ble_eq_true rfl) rfl rfl ht,
  fun _ _ _ _ _ hz => WR_z (show ct 164 12 = some (.ireturn, 2, [1]) by decide +kernel) hz,
  fun _ _ _ _ _ => WP_s (show ct 164 13 = some (.aload_n 0, 0, []) by decide +kernel) rfl,
  fun _ _ _ _ _ => WP_s (show ct 164 14 = some (.iconst 1, 0, []) by decide +kernel) rfl,
  fun _ _ _ _ _ _ ht => WC_1 (show ct 164 15 = some (.invokevirtual 200, 3, [162, 2, 1, 13, 0, 1511, 1513, 65]) by decide +kernel) (Nat.le_of_ble_eq_true rfl) (Nat.le_of_ble_eq_true rfl) rfl rfl ht,
  fun _ _ _ _ _ _ => WZ_lt (show ct 164 18 = some (.ifCond .lt 9, 0, [27]) by decide +kernel) (by decide),
  fun _ _ _ _ _ => WP_s (show ct 164 21 = some (.aload_n 0, 0, []) by decide +kernel) rfl,
  fun _ _ _ _ _ => WP_s (show ct 164 22 = some (.iconst 3, 0, []) by decide +kernel) rfl,
  fun _ _ _ _ _ _ ht => WC_1 (show ct 164 23 = some (.invokevirtual 162, 3, [157, 2, 1, 13, 0, 1495, 1497, 62]) by decide +kernel) (Nat.le_of_ble_eq_true rfl) (Nat.le_of_ble_eq_true rfl) rfl rfl ht,
  fun _ _ _ _ _ hz => WR_z (show ct 164 26 = some (.ireturn, 2, [1]) by decide +kernel) hz,
  fun _ _ _ _ _ => WP_s (show ct 164 27 = some (.bipush 14, 0, []) by decide +kernel) rfl,
  fun _ _ _ _ _ => WP_s (show ct 164 29 = some (.aload_n 0, 0, []) by decide +kernel) rfl,
  fun _ _ _ _ _ _ ht => WH_gR (show ct 164 30 = some (.getfield 24, 1, [12, 8, 2, 1281]) by decide +kernel) ht,
  fun _ _ _ _ _ => WP_s (show ct 164 33 = some (.iconst 1, 0, []) by decide +kernel) rfl,
  fun _ _ _ _ _ _ _ ht hi => WH_iald (show ct 164 34 = some (.iaload, 1, []) by decide +kernel) ht hi,
  fun _ _ _ _ _ _ _ => WP_s (show ct 164 35 = some (.iadd, 0, []) by decide +kernel) rfl,
  fun _ _ _ _ _ _ => WP_s (show ct 164 36 = some (.istore_n 2, 0, []) by decide +kernel) rfl,
  fun _ _ _ _ _ _ => WP_s (show ct 164 37 = some (.aload_n 0, 0, []) by decide +kernel) rfl,
  fun _ _ _ _ _ _ _ ht => WH_gJ (show ct 164 38 = some (.getfield 149, 1, [12, 17, 1, 1290]) by decide +kernel) ht,
  fun _ _ _ _ _ _ _ => WP_s (show ct 164 41 = some (.lstore_n 3, 0, []) by decide +kernel) rfl,
  fun _ _ _ _ _ _ _ => WP_s (show ct 164 42 = some (.aload_n 0, 0, []) by decide +kernel) rfl,
  fun _ _ _ _ _ _ _ _ ht => WH_gR (show ct 164 43 = some (.getfield 17, 1, [12, 6, 2, 1279]) by decide +kernel) ht,
  fun _ _ _ _ _ _ _ => WP_s (show ct 164 46 = some (.iload_n 2, 0, []) by decide +kernel) rfl,
  fun _ _ _ _ _ _ _ => WP_s (show ct 164 47 = some (.iconst 0, 0, []) by decide +kernel) rfl,
  fun _ _ _ _ _ _ _ _ _ _ ht hi => WH_iast (show ct 164 48 = some (.iastore, 1, []) by decide +kernel) ht hi,
  fun _ _ _ _ _ _ _ => WP_s (show ct 164 49 = some (.aload_n 0, 0, []) by decide +kernel) rfl,
  fun _ _ _ _ _ _ _ _ ht => WH_gR (show ct 164 50 = some (.getfield 21, 1, [12, 7, 2, 1280]) by decide +kernel) ht,
  fun _ _ _ _ _ _ _ => WP_s (show ct 164 53 = some (.iload_n 2, 0, []) by decide +kernel) rfl,
  fun _ _ _ _ _ _ _ => WP_s (show ct 164 54 = some (.iconst 1, 0, []) by decide +kernel) rfl,
  fun _ _ _ _ _ _ _ _ _ _ ht hi => WH_iast (show ct 164 55 = some (.iastore, 1, []) by decide +kernel) ht hi,
  fun _ _ _ _ _ _ _ => WP_s (show ct 164 56 = some (.aload_n 0, 0, []) by decide +kernel) rfl,
  fun _ _ _ _ _ _ _ _ ht => WH_gR (show ct 164 57 = some (.getfield 30, 1, [12, 10, 2, 1283]) by decide +kernel) ht,
  fun _ _ _ _ _ _ _ => WP_s (show ct 164 60 = some (.iload_n 2, 0, []) by decide +kernel) rfl,
  fun _ _ _ _ _ _ _ => WP_s (show ct 164 61 = some (.iload_n 1, 0, []) by decide +kernel) rfl,
  fun _ _ _ _ _ _ _ _ => WZ_ne (show ct 164 62 = some (.ifCond .ne 7, 0, [69]) by decide +kernel) (by decide)⟩
set_option maxRecDepth 10000 in
theorem w164_b : (∀ (x0 : Nat) (x1 : Int32) (x2 : Int32) (x3 : Int64) (st : List Value) (h : AH) (Q : Option Value → AH → Prop), WP 164 65 [.ref x0, .int x1, .int x2, .long x3, .retAddr 0] (st) h Q ↔ WP 164 66 [.ref x0, .int x1, .int x2, .long x3, .retAddr 0] (.int (1) :: st) h Q) ∧
  (∀ (x0 : Nat) (x1 : Int32) (x2 : Int32) (x3 : Int64) (st : List Value) (h : AH) (Q : Option Value → AH → Prop), WP 164 66 [.ref x0, .int x1, .int x2, .long x3, .retAddr 0] (st) h Q ↔ WP 164 70 [.ref x0, .int x1, .int x2, .long x3, .retAddr 0] (st) h Q) ∧
  (∀ (x0 : Nat) (x1 : Int32) (x2 : Int32) (x3 : Int64) (st : List Value) (h : AH) (Q : Option Value → AH → Prop), WP 164 69 [.ref x0, .int x1, .int x2, .long x3, .retAddr 0] (st) h Q ↔ WP 164 70 [.ref x0, .int x1, .int x2, .long x3, .retAddr 0] (.int (0) :: st) h Q) ∧
  (∀ (x0 : Nat) (x1 : Int32) (x2 : Int32) (x3 : Int64) (y0 : Int32) (y1 : Int32) (y2 : Nat) (st : List Value) (h : AH) (Q : Option Value → AH → Prop) (ht : hT h y2 = 101) (hi : inb y1 (hL h y2) = true), WP 164 70 [.ref x0, .int x1, .int x2, .long x3, .retAddr 0] (.int y0 :: .int y1 :: .ref y2 :: st) h Q ↔ WP 164 71 [.ref x0, .int x1, .int x2, .long x3, .retAddr 0] (st) (sI h y2 y1.toNatClampNeg y0.toInt8.toInt32) Q) ∧
  (∀ (x0 : Nat) (x1 : Int32) (x2 : Int32) (x3 : Int64) (y0 : Int32) (y1 : Int32) (y2 : Nat) (st : List Value) (h : AH) (Q : Option Value → AH → Prop) (ht : hT h y2 = 102) (hi : inb y1 (hL h y2) = true), WP 164 70 [.ref x0, .int x1, .int x2, .long x3, .retAddr 0] (.int y0 :: .int y1 :: .ref y2 :: st) h Q ↔ WP 164 71 [.ref x0, .int x1, .int x2, .long x3, .retAddr 0] (st) (sI h y2 y1.toNatClampNeg (y0 &&& 1)) Q) ∧
  (∀ (x0 : Nat) (x1 : Int32) (x2 : Int32) (x3 : Int64) (st : List Value) (h : AH) (Q : Option Value → AH → Prop), WP 164 71 [.ref x0, .int x1, .int x2, .long x3, .retAddr 0] (st) h Q ↔ WP 164 72 [.ref x0, .int x1, .int x2, .long x3, .retAddr 0] (.ref x0 :: st) h Q) ∧
  (∀ (x0 : Nat) (x1 : Int32) (x2 : Int32) (x3 : Int64) (y0 : Nat) (h : AH) (Q : Option Value → AH → Prop) (ht : hT h y0 = 13), WP 164 72 [.ref x0, .int x1, .int x2, .long x3, .retAddr 0] ([.ref y0]) h Q ↔ WPM 156 [.ref y0] h (fun r h' => WP 164 75 [.ref x0, .int x1, .int x2, .long x3, .retAddr 0] (r.toList ++ []) h' Q)) ∧
  (∀ (x0 : Nat) (x1 : Int32) (x2 : Int32) (x3 : Int64) (st : List Value) (h : AH) (Q : Option Value → AH → Prop), WP 164 75 [.ref x0, .int x1, .int x2, .long x3, .retAddr 0] (st) h Q ↔ WP 164 76 [.ref x0, .int x1, .int x2, .long x3, .retAddr 0] (.int x1 :: st) h Q) ∧
  (∀ (x0 : Nat) (x1 : Int32) (x2 : Int32) (x3 : Int64) (y0 : Int32) (st : List Value) (h : AH) (Q : Option Value → AH → Prop), WP 164 76 [.ref x0, .int x1, .int x2, .long x3, .retAddr 0] (.int y0 :: st) h Q ↔ ((y0 = 0 → WP 164 89 [.ref x0, .int x1, .int x2, .long x3, .retAddr 0] (st) h Q) ∧ (¬ y0 = 0 → WP 164 79 [.ref x0, .int x1, .int x2, .long x3, .retAddr 0] (st) h Q))) ∧
  (∀ (x0 : Nat) (x1 : Int32) (x2 : Int32) (x3 : Int64) (st : List Value) (h : AH) (Q : Option Value → AH → Prop), WP 164 79 [.ref x0, .int x1, .int x2, .long x3, .retAddr 0] (st) h Q ↔ WP 164 80 [.ref x0, .int x1, .int x2, .long x3, .retAddr 0] (.ref x0 :: st) h Q) ∧
  (∀ (x0 : Nat) (x1 : Int32) (x2 : Int32) (x3 : Int64) (st : List Value) (h : AH) (Q : Option Value → AH → Prop), WP 164 80 [.ref x0, .int x1, .int x2, .long x3, .retAddr 0] (st) h Q ↔ WP 164 81 [.ref x0, .int x1, .int x2, .long x3, .retAddr 0] (.int x2 :: st) h Q) ∧
  (∀ (x0 : Nat) (x1 : Int32) (x2 : Int32) (x3 : Int64) (y1 : Nat) (y0 : Int32) (h : AH) (Q : Option Value → AH → Prop) (ht : hT h y1 = 13), WP 164 81 [.ref x0, .int x1, .int x2, .long x3, .retAddr 0] ([.int y0, .ref y1]) h Q ↔ WPM 165 [.ref y1, .int y0] h (fun r h' => WP 164 84 [.ref x0, .int x1, .int x2, .long x3, .retAddr 0] (r.toList ++ []) h' Q)) ∧
  (∀ (x0 : Nat) (x1 : Int32) (x2 : Int32) (x3 : Int64) (y0 : Int32) (st : List Value) (h : AH) (Q : Option Value → AH → Prop), WP 164 84 [.ref x0, .int x1, .int x2, .long x3, .retAddr 0] (.int y0 :: st) h Q ↔ ((¬ y0 = 0 → WP 164 89 [.ref x0, .int x1, .int x2, .long x3, .retAddr 0] (st) h Q) ∧ (y0 = 0 → WP 164 87 [.ref x0, .int x1, .int x2, .long x3, .retAddr 0] (st) h Q))) ∧
  (∀ (x0 : Nat) (x1 : Int32) (x2 : Int32) (x3 : Int64) (st : List Value) (h : AH) (Q : Option Value → AH → Prop), WP 164 87 [.ref x0, .int x1, .int x2, .long x3, .retAddr 0] (st) h Q ↔ WP 164 88 [.ref x0, .int x1, .int x2, .long x3, .retAddr 0] (.int (0) :: st) h Q) ∧
  (∀ (x0 : Nat) (x1 : Int32) (x2 : Int32) (x3 : Int64) (y0 : Int32) (h : AH) (Q : Option Value → AH → Prop) (hz : y0 = 0 ∨ y0 = 1), WP 164 88 [.ref x0, .int x1, .int x2, .long x3, .retAddr 0] ([.int y0]) h Q ↔ Q (some (.int y0)) h) ∧
  (∀ (x0 : Nat) (x1 : Int32) (x2 : Int32) (x3 : Int64) (st : List Value) (h : AH) (Q : Option Value → AH → Prop), WP 164 89 [.ref x0, .int x1, .int x2, .long x3, .retAddr 0] (st) h Q ↔ WP 164 90 [.ref x0, .int x1, .int x2, .long x3, .retAddr 0] (.ref x0 :: st) h Q) ∧
  (∀ (x0 : Nat) (x1 : Int32) (x2 : Int32) (x3 : Int64) (st : List Value) (h : AH) (Q : Option Value → AH → Prop), WP 164 90 [.ref x0, .int x1, .int x2, .long x3, .retAddr 0] (st) h Q ↔ WP 164 93 [.ref x0, .int x1, .int x2, .long x3, .retAddr 0] (.long (lN 427071599731) :: st) h Q) ∧
  (∀ (x0 : Nat) (x1 : Int32) (x2 : Int32) (x3 : Int64) (y1 : Nat) (y0 : Int64) (h : AH) (Q : Option Value → AH → Prop) (ht : hT h y1 = 13), WP 164 93 [.ref x0, .int x1, .int x2, .long x3, .retAddr 0] ([.long y0, .ref y1]) h Q ↔ WPM 158 [.ref y1, .long y0] h (fun r h' => WP 164 96 [.ref x0, .int x1, .int x2, .long x3, .retAddr 0] (r.toList ++ []) h' Q)) ∧
  (∀ (x0 : Nat) (x1 : Int32) (x2 : Int32) (x3 : Int64) (y0 : Int32) (st : List Value) (h : AH) (Q : Option Value → AH → Prop), WP 164 96 [.ref x0, .int x1, .int x2, .long x3, .retAddr 0] (.int y0 :: st) h Q ↔ ((y0 = 0 → WP 164 131 [.ref x0, .int x1, .int x2, .long x3, .retAddr 0] (st) h Q) ∧ (¬ y0 = 0 → WP 164 99 [.ref x0, .int x1, .int x2, .long x3, .retAddr 0] (st) h Q))) ∧
  (∀ (x0 : Nat) (x1 : Int32) (x2 : Int32) (x3 : Int64) (st : List Value) (h : AH) (Q : Option Value → AH → Prop), WP 164 99 [.ref x0, .int x1, .int x2, .long x3, .retAddr 0] (st) h Q ↔ WP 164 100 [.ref x0, .int x1, .int x2, .long x3, .retAddr 0] (.ref x0 :: st) h Q) ∧
  (∀ (x0 : Nat) (x1 : Int32) (x2 : Int32) (x3 : Int64) (y0 : Nat) (h : AH) (Q : Option Value → AH → Prop) (ht : hT h y0 = 13), WP 164 100 [.ref x0, .int x1, .int x2, .long x3, .retAddr 0] ([.ref y0]) h Q ↔ WPM 156 [.ref y0] h (fun r h' => WP 164 103 [.ref x0, .int x1, .int x2, .long x3, .retAddr 0] (r.toList ++ []) h' Q)) ∧
  (∀ (x0 : Nat) (x1 : Int32) (x2 : Int32) (x3 : Int64) (st : List Value) (h : AH) (Q : Option Value → AH → Prop), WP 164 103 [.ref x0, .int x1, .int x2, .long x3, .retAddr 0] (st) h Q ↔ WP 164 104 [.ref x0, .int x1, .int x2, .long x3, .retAddr 0] (.ref x0 :: st) h Q) ∧
  (∀ (x0 : Nat) (x1 : Int32) (x2 : Int32) (x3 : Int64) (y0 : Nat) (st : List Value) (h : AH) (Q : Option Value → AH → Prop) (ht : hT h y0 = 13), WP 164 104 [.ref x0, .int x1, .int x2, .long x3, .retAddr 0] (.ref y0 :: st) h Q ↔ WP 164 107 [.ref x0, .int x1, .int x2, .long x3, .retAddr 0] (.int (hI h y0 11) :: st) h Q) ∧
  (∀ (x0 : Nat) (x1 : Int32) (x2 : Int32) (x3 : Int64) (st : List Value) (h : AH) (Q : Option Value → AH → Prop), WP 164 107 [.ref x0, .int x1, .int x2, .long x3, .retAddr 0] (st) h Q ↔ WP 164 108 [.ref x0, .int x1, .int x2, .long x3, .retAddr 0] (.int (2) :: st) h Q) ∧
  (∀ (x0 : Nat) (x1 : Int32) (x2 : Int32) (x3 : Int64) (y0 : Int32) (y1 : Int32) (st : List Value) (h : AH) (Q : Option Value → AH → Prop), WP 164 108 [.ref x0, .int x1, .int x2, .long x3, .retAddr 0] (.int y0 :: .int y1 :: st) h Q ↔ ((y1 = y0 → WP 164 117 [.ref x0, .int x1, .int x2, .long x3, .retAddr 0] (st) h Q) ∧ (¬ y1 = y0 → WP 164 111 [.ref x0, .int x1, .int x2, .long x3, .retAddr 0] (st) h Q))) ∧
  (∀ (x0 : Nat) (x1 : Int32) (x2 : Int32) (x3 : Int64) (st : List Value) (h : AH) (Q : Option Value → AH → Prop), WP 164 111 [.ref x0, .int x1, .int x2, .long x3, .retAddr 0] (st) h Q ↔ WP 164 112 [.ref x0, .int x1, .int x2, .long x3, .retAddr 0] (.ref x0 :: st) h Q) ∧
  (∀ (x0 : Nat) (x1 : Int32) (x2 : Int32) (x3 : Int64) (st : List Value) (h : AH) (Q : Option Value → AH → Prop), WP 164 112 [.ref x0, .int x1, .int x2, .long x3, .retAddr 0] (st) h Q ↔ WP 164 113 [.ref x0, .int x1, .int x2, .long x3, .retAddr 0] (.int (1) :: st) h Q) ∧
  (∀ (x0 : Nat) (x1 : Int32) (x2 : Int32) (x3 : Int64) (y1 : Nat) (y0 : Int32) (h : AH) (Q : Option Value → AH → Prop) (ht : hT h y1 = 13), WP 164 113 [.ref x0, .int x1, .int x2, .long x3, .retAddr 0] ([.int y0, .ref y1]) h Q ↔ WPM 157 [.ref y1, .int y0] h (fun r h' => WP 164 116 [.ref x0, .int x1, .int x2, .long x3, .retAddr 0] (r.toList ++ []) h' Q)) ∧
  (∀ (x0 : Nat) (x1 : Int32) (x2 : Int32) (x3 : Int64) (y0 : Int32) (h : AH) (Q : Option Value → AH → Prop) (hz : y0 = 0 ∨ y0 = 1), WP 164 116 [.ref x0, .int x1, .int x2, .long x3, .retAddr 0] ([.int y0]) h Q ↔ Q (some (.int y0)) h) ∧
  (∀ (x0 : Nat) (x1 : Int32) (x2 : Int32) (x3 : Int64) (st : List Value) (h : AH) (Q : Option Value → AH → Prop), WP 164 117 [.ref x0, .int x1, .int x2, .long x3, .retAddr 0] (st) h Q ↔ WP 164 118 [.ref x0, .int x1, .int x2, .long x3, .retAddr 0] (.ref x0 :: st) h Q) ∧
  (∀ (x0 : Nat) (x1 : Int32) (x2 : Int32) (x3 : Int64) (y0 : Nat) (st : List Value) (h : AH) (Q : Option Value → AH → Prop) (ht : hT h y0 = 13), WP 164 118 [.ref x0, .int x1, .int x2, .long x3, .retAddr 0] (.ref y0 :: st) h Q ↔ WP 164 121 [.ref x0, .int x1, .int x2, .long x3, .retAddr 0] (.ref (hR h y0 7) :: st) h Q) ∧
  (∀ (x0 : Nat) (x1 : Int32) (x2 : Int32) (x3 : Int64) (st : List Value) (h : AH) (Q : Option Value → AH → Prop), WP 164 121 [.ref x0, .int x1, .int x2, .long x3, .retAddr 0] (st) h Q ↔ WP 164 122 [.ref x0, .int x1, .int x2, .long x3, .retAddr 0] (.int x2 :: st) h Q) ∧
  (∀ (x0 : Nat) (x1 : Int32) (x2 : Int32) (x3 : Int64) (st : List Value) (h : AH) (Q : Option Value → AH → Prop), WP 164 122 [.ref x0, .int x1, .int x2, .long x3, .retAddr 0] (st) h Q ↔ WP 164 123 [.ref x0, .int x1, .int x2, .long x3, .retAddr 0] (.ref x0 :: st) h Q) ∧
  (∀ (x0 : Nat) (x1 : Int32) (x2 : Int32) (x3 : Int64) (y0 : Nat) (st : List Value) (h : AH) (Q : Option Value → AH → Prop) (ht : hT h y0 = 13), WP 164 123 [.ref x0, .int x1, .int x2, .long x3, .retAddr 0] (.ref y0 :: st) h Q ↔ WP 164 126 [.ref x0, .int x1, .int x2, .long x3, .retAddr 0] (.int (hI h y0 14) :: st) h Q) ∧
  (∀ (x0 : Nat) (x1 : Int32) (x2 : Int32) (x3 : Int64) (y0 : Int32) (y1 : Int32) (y2 : Nat) (st : List Value) (h : AH) (Q : Option Value → AH → Prop) (ht : hT h y2 = 100) (hi : inb y1 (hL h y2) = true), WP 164 126 [.ref x0, .int x1, .int x2, .long x3, .retAddr 0] (.int y0 :: .int y1 :: .ref y2 :: st) h Q ↔ WP 164 127 [.ref x0, .int x1, .int x2, .long x3, .retAddr 0] (st) (sI h y2 y1.toNatClampNeg y0) Q) ∧
  (∀ (x0 : Nat) (x1 : Int32) (x2 : Int32) (x3 : Int64) (st : List Value) (h : AH) (Q : Option Value → AH → Prop), WP 164 127 [.ref x0, .int x1, .int x2, .long x3, .retAddr 0] (st) h Q ↔ WP 164 128 [.ref x0, .int x1, .int x2, .long x3, .retAddr 0] (.ref x0 :: st) h Q) ∧
  (∀ (x0 : Nat) (x1 : Int32) (x2 : Int32) (x3 : Int64) (y0 : Nat) (h : AH) (Q : Option Value → AH → Prop) (ht : hT h y0 = 13), WP 164 128 [.ref x0, .int x1, .int x2, .long x3, .retAddr 0] ([.ref y0]) h Q ↔ WPM 156 [.ref y0] h (fun r h' => WP 164 131 [.ref x0, .int x1, .int x2, .long x3, .retAddr 0] (r.toList ++ []) h' Q)) ∧
  (∀ (x0 : Nat) (x1 : Int32) (x2 : Int32) (x3 : Int64) (st : List Value) (h : AH) (Q : Option Value → AH → Prop), WP 164 131 [.ref x0, .int x1, .int x2, .long x3, .retAddr 0] (st) h Q ↔ WP 164 132 [.ref x0, .int x1, .int x2, .long x3, .retAddr 0] (.ref x0 :: st) h Q) ∧
  (∀ (x0 : Nat) (x1 : Int32) (x2 : Int32) (x3 : Int64) (y0 : Nat) (st : List Value) (h : AH) (Q : Option Value → AH → Prop) (ht : hT h y0 = 13), WP 164 132 [.ref x0, .int x1, .int x2, .long x3, .retAddr 0] (.ref y0 :: st) h Q ↔ WP 164 135 [.ref x0, .int x1, .int x2, .long x3, .retAddr 0] (.ref (hR h y0 5) :: st) h Q) ∧
  (∀ (x0 : Nat) (x1 : Int32) (x2 : Int32) (x3 : Int64) (st : List Value) (h : AH) (Q : Option Value → AH → Prop), WP 164 135 [.ref x0, .int x1, .int x2, .long x3, .retAddr 0] (st) h Q ↔ WP 164 136 [.ref x0, .int x1, .int x2, .long x3, .retAddr 0] (.int x2 :: st) h Q) :=
  ⟨fun _ _ _ _ _ _ _ => WP_s (show ct 164 65 = some (.iconst 1, 0, []) by decide +kernel) rfl,
  fun _ _ _ _ _ _ _ => WP_s (show ct 164 66 = some (.goto 4, 0, [70]) by decide +kernel) rfl,
  fun _ _ _ _ _ _ _ => WP_s (show ct 164 69 = some (.iconst 0, 0, []) by decide +kernel) rfl,
  fun _ _ _ _ _ _ _ _ _ _ ht hi => WH_bast (show ct 164 70 = some (.bastore, 1, []) by decide +kernel) ht hi,
  fun _ _ _ _ _ _ _ _ _ _ ht hi => WH_zast (show ct 164 70 = some (.bastore, 1, []) by decide +kernel) ht hi,
  fun _ _ _ _ _ _ _ => WP_s (show ct 164 71 = some (.aload_n 0, 0, []) by decide +kernel) rfl,
  fun _ _ _ _ _ _ _ ht => WC_1 (show ct 164 72 = some (.invokevirtual 165, 3, [156, 1, 1, 13, 0, 1470, 1472, 58]) by decide +kernel) (Nat.le_of_ble_eq_true rfl) (Nat.le_of_ble_eq_true rfl) rfl rfl ht,
  fun _ _ _ _ _ _ _ => WP_s (show ct 164 75 = some (.iload_n 1, 0, []) by decide +kernel) rfl,
  fun _ _ _ _ _ _ _ _ => WZ_eq (show ct 164 76 = some (.ifCond .eq 13, 0, [89]) by decide +kernel) (by decide),
  fun _ _ _ _ _ _ _ => WP_s (show ct 164 79 = some (.aload_n 0, 0, []) by decide +kernel) rfl,
  fun _ _ _ _ _ _ _ => WP_s (show ct 164 80 = some (.iload_n 2, 0, []) by decide +kernel) rfl,
  fun _ _ _ _ _ _ _ _ ht => WC_1 (show ct 164 81 = some (.invokevirtual 204, 3, [165, 2, 1, 13, 0, 1515, 1517, 66]) by decide +kernel) (Nat.le_of_ble_eq_true rfl) (Nat.le_of_ble_eq_true rfl) rfl rfl ht,
  fun _ _ _ _ _ _ _ _ => WZ_ne (show ct 164 84 = some (.ifCond .ne 5, 0, [89]) by decide +kernel) (by decide),
  fun _ _ _ _ _ _ _ => WP_s (show ct 164 87 = some (.iconst 0, 0, []) by decide +kernel) rfl,
  fun _ _ _ _ _ _ _ hz => WR_z (show ct 164 88 = some (.ireturn, 2, [1]) by decide +kernel) hz,
  fun _ _ _ _ _ _ _ => WP_s (show ct 164 89 = some (.aload_n 0, 0, []) by decide +kernel) rfl,
  fun _ _ _ _ _ _ _ => WP_s (show ct 164 90 = some (.ldc2_w 174, 0, [427071599731, 1508]) by decide +kernel) rfl,
  fun _ _ _ _ _ _ _ _ ht => WC_1 (show ct 164 93 = some (.invokevirtual 182, 3, [158, 2, 1, 13, 0, 1489, 1491, 61]) by decide +kernel) (Nat.le_of_ble_eq_true rfl) (Nat.le_of_ble_eq_true rfl) rfl rfl ht,
  fun _ _ _ _ _ _ _ _ => WZ_eq (show ct 164 96 = some (.ifCond .eq 35, 0, [131]) by decide +kernel) (by decide),
  fun _ _ _ _ _ _ _ => WP_s (show ct 164 99 = some (.aload_n 0, 0, []) by decide +kernel) rfl,
  fun _ _ _ _ _ _ _ ht => WC_1 (show ct 164 100 = some (.invokevirtual 165, 3, [156, 1, 1, 13, 0, 1470, 1472, 58]) by decide +kernel) (Nat.le_of_ble_eq_true rfl) (Nat.le_of_ble_eq_true rfl) rfl rfl ht,
  fun _ _ _ _ _ _ _ => WP_s (show ct 164 103 = some (.aload_n 0, 0, []) by decide +kernel) rfl,
  fun _ _ _ _ _ _ _ _ ht => WH_gI (show ct 164 104 = some (.getfield 136, 1, [12, 11, 0, 1284]) by decide +kernel) (by decide) ht,
  fun _ _ _ _ _ _ _ => WP_s (show ct 164 107 = some (.iconst 2, 0, []) by decide +kernel) rfl,
  fun _ _ _ _ _ _ _ _ _ => WI_eq (show ct 164 108 = some (.if_icmp .eq 9, 0, [117]) by decide +kernel) (by decide),
  fun _ _ _ _ _ _ _ => WP_s (show ct 164 111 = some (.aload_n 0, 0, []) by decide +kernel) rfl,
  fun _ _ _ _ _ _ _ => WP_s (show ct 164 112 = some (.iconst 1, 0, []) by decide +kernel) rfl,
  fun _ _ _ _ _ _ _ _ ht => WC_1 (show ct 164 113 = some (.invokevirtual 162, 3, [157, 2, 1, 13, 0, 1495, 1497, 62]) by decide +kernel) (Nat.le_of_ble_eq_true rfl) (Nat.le_of_ble_eq_true rfl) rfl rfl ht,
  fun _ _ _ _ _ _ _ hz => WR_z (show ct 164 116 = some (.ireturn, 2, [1]) by decide +kernel) hz,
  fun _ _ _ _ _ _ _ => WP_s (show ct 164 117 = some (.aload_n 0, 0, []) by decide +kernel) rfl,
  fun _ _ _ _ _ _ _ _ ht => WH_gR (show ct 164 118 = some (.getfield 21, 1, [12, 7, 2, 1280]) by decide +kernel) ht,
  fun _ _ _ _ _ _ _ => WP_s (show ct 164 121 = some (.iload_n 2, 0, []) by decide +kernel) rfl,
  fun _ _ _ _ _ _ _ => WP_s (show ct 164 122 = some (.aload_n 0, 0, []) by decide +kernel) rfl,
  fun _ _ _ _ _ _ _ _ ht => WH_gI (show ct 164 123 = some (.getfield 146, 1, [12, 14, 0, 1287]) by decide +kernel) (by decide) ht,
  fun _ _ _ _ _ _ _ _ _ _ ht hi => WH_iast (show ct 164 126 = some (.iastore, 1, []) by decide +kernel) ht hi,
  fun _ _ _ _ _ _ _ => WP_s (show ct 164 127 = some (.aload_n 0, 0, []) by decide +kernel) rfl,
  fun _ _ _ _ _ _ _ ht => WC_1 (show ct 164 128 = some (.invokevirtual 165, 3, [156, 1, 1, 13, 0, 1470, 1472, 58]) by decide +kernel) (Nat.le_of_ble_eq_true rfl) (Nat.le_of_ble_eq_true rfl) rfl rfl ht,
  fun _ _ _ _ _ _ _ => WP_s (show ct 164 131 = some (.aload_n 0, 0, []) by decide +kernel) rfl,
  fun _ _ _ _ _ _ _ _ ht => WH_gR (show ct 164 132 = some (.getfield 13, 1, [12, 5, 2, 1278]) by decide +kernel) ht,
  fun _ _ _ _ _ _ _ => WP_s (show ct 164 135 = some (.iload_n 2, 0, []) by decide +kernel) rfl⟩
set_option maxRecDepth 10000 in
theorem w164_c : (∀ (x0 : Nat) (x1 : Int32) (x2 : Int32) (x3 : Int64) (st : List Value) (h : AH) (Q : Option Value → AH → Prop), WP 164 136 [.ref x0, .int x1, .int x2, .long x3, .retAddr 0] (st) h Q ↔ WP 164 137 [.ref x0, .int x1, .int x2, .long x3, .retAddr 0] (.long x3 :: st) h Q) ∧
  (∀ (x0 : Nat) (x1 : Int32) (x2 : Int32) (x3 : Int64) (y0 : Int64) (y1 : Int32) (y2 : Nat) (st : List Value) (h : AH) (Q : Option Value → AH → Prop) (ht : hT h y2 = 103) (hi : inb y1 (hL h y2) = true), WP 164 137 [.ref x0, .int x1, .int x2, .long x3, .retAddr 0] (.long y0 :: .int y1 :: .ref y2 :: st) h Q ↔ WP 164 138 [.ref x0, .int x1, .int x2, .long x3, .retAddr 0] (st) (sJ h y2 y1.toNatClampNeg y0) Q) ∧
  (∀ (x0 : Nat) (x1 : Int32) (x2 : Int32) (x3 : Int64) (st : List Value) (h : AH) (Q : Option Value → AH → Prop), WP 164 138 [.ref x0, .int x1, .int x2, .long x3, .retAddr 0] (st) h Q ↔ WP 164 139 [.ref x0, .int x1, .int x2, .long x3, .retAddr 0] (.ref x0 :: st) h Q) ∧
  (∀ (x0 : Nat) (x1 : Int32) (x2 : Int32) (x3 : Int64) (y0 : Nat) (st : List Value) (h : AH) (Q : Option Value → AH → Prop) (ht : hT h y0 = 13), WP 164 139 [.ref x0, .int x1, .int x2, .long x3, .retAddr 0] (.ref y0 :: st) h Q ↔ WP 164 142 [.ref x0, .int x1, .int x2, .long x3, .retAddr 0] (.ref (hR h y0 8) :: st) h Q) ∧
  (∀ (x0 : Nat) (x1 : Int32) (x2 : Int32) (x3 : Int64) (st : List Value) (h : AH) (Q : Option Value → AH → Prop), WP 164 142 [.ref x0, .int x1, .int x2, .long x3, .retAddr 0] (st) h Q ↔ WP 164 143 [.ref x0, .int x1, .int x2, .long x3, .retAddr 0] (.int (1) :: st) h Q) ∧
  (∀ (x0 : Nat) (x1 : Int32) (x2 : Int32) (x3 : Int64) (y0 : Int32) (y1 : Nat) (st : List Value) (h : AH) (Q : Option Value → AH → Prop), WP 164 143 [.ref x0, .int x1, .int x2, .long x3, .retAddr 0] (.int y0 :: .ref y1 :: st) h Q ↔ WP 164 144 [.ref x0, .int x1, .int x2, .long x3, .retAddr 0] (.int y0 :: .ref y1 :: .int y0 :: .ref y1 :: st) h Q) ∧
  (∀ (x0 : Nat) (x1 : Int32) (x2 : Int32) (x3 : Int64) (y0 : Int32) (y1 : Nat) (st : List Value) (h : AH) (Q : Option Value → AH → Prop) (ht : hT h y1 = 100 ∨ hT h y1 = 110) (hi : inb y0 (hL h y1) = true), WP 164 144 [.ref x0, .int x1, .int x2, .long x3, .retAddr 0] (.int y0 :: .ref y1 :: st) h Q ↔ WP 164 145 [.ref x0, .int x1, .int x2, .long x3, .retAddr 0] (.int (hI h y1 y0.toNatClampNeg) :: st) h Q) ∧
  (∀ (x0 : Nat) (x1 : Int32) (x2 : Int32) (x3 : Int64) (st : List Value) (h : AH) (Q : Option Value → AH → Prop), WP 164 145 [.ref x0, .int x1, .int x2, .long x3, .retAddr 0] (st) h Q ↔ WP 164 146 [.ref x0, .int x1, .int x2, .long x3, .retAddr 0] (.int (1) :: st) h Q) ∧
  (∀ (x0 : Nat) (x1 : Int32) (x2 : Int32) (x3 : Int64) (y0 : Int32) (y1 : Int32) (st : List Value) (h : AH) (Q : Option Value → AH → Prop), WP 164 146 [.ref x0, .int x1, .int x2, .long x3, .retAddr 0] (.int y0 :: .int y1 :: st) h Q ↔ WP 164 147 [.ref x0, .int x1, .int x2, .long x3, .retAddr 0] (.int (y1 + y0) :: st) h Q) ∧
  (∀ (x0 : Nat) (x1 : Int32) (x2 : Int32) (x3 : Int64) (y0 : Int32) (y1 : Int32) (y2 : Nat) (st : List Value) (h : AH) (Q : Option Value → AH → Prop) (ht : hT h y2 = 100) (hi : inb y1 (hL h y2) = true), WP 164 147 [.ref x0, .int x1, .int x2, .long x3, .retAddr 0] (.int y0 :: .int y1 :: .ref y2 :: st) h Q ↔ WP 164 148 [.ref x0, .int x1, .int x2, .long x3, .retAddr 0] (st) (sI h y2 y1.toNatClampNeg y0) Q) ∧
  (∀ (x0 : Nat) (x1 : Int32) (x2 : Int32) (x3 : Int64) (st : List Value) (h : AH) (Q : Option Value → AH → Prop), WP 164 148 [.ref x0, .int x1, .int x2, .long x3, .retAddr 0] (st) h Q ↔ WP 164 149 [.ref x0, .int x1, .int x2, .long x3, .retAddr 0] (.int (1) :: st) h Q) ∧
  (∀ (x0 : Nat) (x1 : Int32) (x2 : Int32) (x3 : Int64) (y0 : Int32) (h : AH) (Q : Option Value → AH → Prop) (hz : y0 = 0 ∨ y0 = 1), WP 164 149 [.ref x0, .int x1, .int x2, .long x3, .retAddr 0] ([.int y0]) h Q ↔ Q (some (.int y0)) h) :=
  ⟨fun _ _ _ _ _ _ _ => WP_s (show ct 164 136 = some (.lload_n 3, 0, []) by decide +kernel) rfl,
  fun _ _ _ _ _ _ _ _ _ _ ht hi => WH_last (show ct 164 137 = some (.lastore, 1, []) by decide +kernel) ht hi,
  fun _ _ _ _ _ _ _ => WP_s (show ct 164 138 = some (.aload_n 0, 0, []) by decide +kernel) rfl,
  fun _ _ _ _ _ _ _ _ ht => WH_gR (show ct 164 139 = some (.getfield 24, 1, [12, 8, 2, 1281]) by decide +kernel) ht,
  fun _ _ _ _ _ _ _ => WP_s (show ct 164 142 = some (.iconst 1, 0, []) by decide +kernel) rfl,
  fun _ _ _ _ _ _ _ _ _ => WP_s (show ct 164 143 = some (.dup2, 0, []) by decide +kernel) rfl,
  fun _ _ _ _ _ _ _ _ _ ht hi => WH_iald (show ct 164 144 = some (.iaload, 1, []) by decide +kernel) ht hi,
  fun _ _ _ _ _ _ _ => WP_s (show ct 164 145 = some (.iconst 1, 0, []) by decide +kernel) rfl,
  fun _ _ _ _ _ _ _ _ _ => WP_s (show ct 164 146 = some (.iadd, 0, []) by decide +kernel) rfl,
  fun _ _ _ _ _ _ _ _ _ _ ht hi => WH_iast (show ct 164 147 = some (.iastore, 1, []) by decide +kernel) ht hi,
  fun _ _ _ _ _ _ _ => WP_s (show ct 164 148 = some (.iconst 1, 0, []) by decide +kernel) rfl,
  fun _ _ _ _ _ _ _ hz => WR_z (show ct 164 149 = some (.ireturn, 2, [1]) by decide +kernel) hz⟩
/-- all of 164 -/
def w164_n : Nat := 3
/-! 165: FewBowlsModel.of(I)Z; loop heads [35] -/
theorem w165_35 : ∀ (x0 : Nat) (x1 : Int32) (x2 : Int32) (x3 : Value) (st : List Value) (h : AH) (Q : Option Value → AH → Prop), WP 165 35 [.ref x0, .int x1, .int x2, x3] (st) h Q ↔ WP 165 36 [.ref x0, .int x1, .int x2, x3] (.ref x0 :: st) h Q := fun _ _ _ _ _ _ _ => WP_s (show ct 165 35 = some (.aload_n 0, 0, []) by decide +kernel) rfl
set_option maxRecDepth 10000 in
theorem w165_a : (∀ (x0 : Nat) (x1 : Int32) (st : List Value) (h : AH) (Q : Option Value → AH → Prop), WP 165 0 [.ref x0, .int x1, .retAddr 0, .retAddr 0] (st) h Q ↔ WP 165 1 [.ref x0, .int x1, .retAddr 0, .retAddr 0] (.ref x0 :: st) h Q) ∧
  (∀ (x0 : Nat) (x1 : Int32) (st : List Value) (h : AH) (Q : Option Value → AH → Prop), WP 165 1 [.ref x0, .int x1, .retAddr 0, .retAddr 0] (st) h Q ↔ WP 165 4 [.ref x0, .int x1, .retAddr 0, .retAddr 0] (.long (lN 28518) :: st) h Q) ∧
  (∀ (x0 : Nat) (x1 : Int32) (y1 : Nat) (y0 : Int64) (h : AH) (Q : Option Value → AH → Prop) (ht : hT h y1 = 13), WP 165 4 [.ref x0, .int x1, .retAddr 0, .retAddr 0] ([.long y0, .ref y1]) h Q ↔ WPM 158 [.ref y1, .long y0] h (fun r h' => WP 165 7 [.ref x0, .int x1, .retAddr 0, .retAddr 0] (r.toList ++ []) h' Q)) ∧
  (∀ (x0 : Nat) (x1 : Int32) (y0 : Int32) (st : List Value) (h : AH) (Q : Option Value → AH → Prop), WP 165 7 [.ref x0, .int x1, .retAddr 0, .retAddr 0] (.int y0 :: st) h Q ↔ ((¬ y0 = 0 → WP 165 16 [.ref x0, .int x1, .retAddr 0, .retAddr 0] (st) h Q) ∧ (y0 = 0 → WP 165 10 [.ref x0, .int x1, .retAddr 0, .retAddr 0] (st) h Q))) ∧
  (∀ (x0 : Nat) (x1 : Int32) (st : List Value) (h : AH) (Q : Option Value → AH → Prop), WP 165 10 [.ref x0, .int x1, .retAddr 0, .retAddr 0] (st) h Q ↔ WP 165 11 [.ref x0, .int x1, .retAddr 0, .retAddr 0] (.ref x0 :: st) h Q) ∧
  (∀ (x0 : Nat) (x1 : Int32) (st : List Value) (h : AH) (Q : Option Value → AH → Prop), WP 165 11 [.ref x0, .int x1, .retAddr 0, .retAddr 0] (st) h Q ↔ WP 165 12 [.ref x0, .int x1, .retAddr 0, .retAddr 0] (.int (1) :: st) h Q) ∧
  (∀ (x0 : Nat) (x1 : Int32) (y1 : Nat) (y0 : Int32) (h : AH) (Q : Option Value → AH → Prop) (ht : hT h y1 = 13), WP 165 12 [.ref x0, .int x1, .retAddr 0, .retAddr 0] ([.int y0, .ref y1]) h Q ↔ WPM 157 [.ref y1, .int y0] h (fun r h' => WP 165 15 [.ref x0, .int x1, .retAddr 0, .retAddr 0] (r.toList ++ []) h' Q)) ∧
  (∀ (x0 : Nat) (x1 : Int32) (y0 : Int32) (h : AH) (Q : Option Value → AH → Prop) (hz : y0 = 0 ∨ y0 = 1), WP 165 15 [.ref x0, .int x1, .retAddr 0, .retAddr 0] ([.int y0]) h Q ↔ Q (some (.int y0)) h) ∧
  (∀ (x0 : Nat) (x1 : Int32) (st : List Value) (h : AH) (Q : Option Value → AH → Prop), WP 165 16 [.ref x0, .int x1, .retAddr 0, .retAddr 0] (st) h Q ↔ WP 165 17 [.ref x0, .int x1, .retAddr 0, .retAddr 0] (.ref x0 :: st) h Q) ∧
  (∀ (x0 : Nat) (x1 : Int32) (y0 : Nat) (h : AH) (Q : Option Value → AH → Prop) (ht : hT h y0 = 13), WP 165 17 [.ref x0, .int x1, .retAddr 0, .retAddr 0] ([.ref y0]) h Q ↔ WPM 156 [.ref y0] h (fun r h' => WP 165 20 [.ref x0, .int x1, .retAddr 0, .retAddr 0] (r.toList ++ []) h' Q)) ∧
  (∀ (x0 : Nat) (x1 : Int32) (st : List Value) (h : AH) (Q : Option Value → AH → Prop), WP 165 20 [.ref x0, .int x1, .retAddr 0, .retAddr 0] (st) h Q ↔ WP 165 21 [.ref x0, .int x1, .retAddr 0, .retAddr 0] (.int (0) :: st) h Q) ∧
  (∀ (x0 : Nat) (x1 : Int32) (y0 : Int32) (st : List Value) (h : AH) (Q : Option Value → AH → Prop), WP 165 21 [.ref x0, .int x1, .retAddr 0, .retAddr 0] (.int y0 :: st) h Q ↔ WP 165 22 [.ref x0, .int x1, .int y0, .retAddr 0] (st) h Q) ∧
  (∀ (x0 : Nat) (x1 : Int32) (x2 : Int32) (st : List Value) (h : AH) (Q : Option Value → AH → Prop), WP 165 22 [.ref x0, .int x1, .int x2, .retAddr 0] (st) h Q ↔ WP 165 23 [.ref x0, .int x1, .int x2, .retAddr 0] (.ref x0 :: st) h Q) ∧
  (∀ (x0 : Nat) (x1 : Int32) (x2 : Int32) (y0 : Nat) (h : AH) (Q : Option Value → AH → Prop) (ht : hT h y0 = 13), WP 165 23 [.ref x0, .int x1, .int x2, .retAddr 0] ([.ref y0]) h Q ↔ WPM 161 [.ref y0] h (fun r h' => WP 165 26 [.ref x0, .int x1, .int x2, .retAddr 0] (r.toList ++ []) h' Q)) ∧
  (∀ (x0 : Nat) (x1 : Int32) (x2 : Int32) (y0 : Int32) (st : List Value) (h : AH) (Q : Option Value → AH → Prop), WP 165 26 [.ref x0, .int x1, .int x2, .retAddr 0] (.int y0 :: st) h Q ↔ ((¬ y0 = 0 → WP 165 35 [.ref x0, .int x1, .int x2, .retAddr 0] (st) h Q) ∧ (y0 = 0 → WP 165 29 [.ref x0, .int x1, .int x2, .retAddr 0] (st) h Q))) ∧
  (∀ (x0 : Nat) (x1 : Int32) (x2 : Int32) (st : List Value) (h : AH) (Q : Option Value → AH → Prop), WP 165 29 [.ref x0, .int x1, .int x2, .retAddr 0] (st) h Q ↔ WP 165 30 [.ref x0, .int x1, .int x2, .retAddr 0] (.ref x0 :: st) h Q) ∧
  (∀ (x0 : Nat) (x1 : Int32) (x2 : Int32) (st : List Value) (h : AH) (Q : Option Value → AH → Prop), WP 165 30 [.ref x0, .int x1, .int x2, .retAddr 0] (st) h Q ↔ WP 165 31 [.ref x0, .int x1, .int x2, .retAddr 0] (.int (1) :: st) h Q) ∧
  (∀ (x0 : Nat) (x1 : Int32) (x2 : Int32) (y1 : Nat) (y0 : Int32) (h : AH) (Q : Option Value → AH → Prop) (ht : hT h y1 = 13), WP 165 31 [.ref x0, .int x1, .int x2, .retAddr 0] ([.int y0, .ref y1]) h Q ↔ WPM 157 [.ref y1, .int y0] h (fun r h' => WP 165 34 [.ref x0, .int x1, .int x2, .retAddr 0] (r.toList ++ []) h' Q)) ∧
  (∀ (x0 : Nat) (x1 : Int32) (x2 : Int32) (y0 : Int32) (h : AH) (Q : Option Value → AH → Prop) (hz : y0 = 0 ∨ y0 = 1), WP 165 34 [.ref x0, .int x1, .int x2, .retAddr 0] ([.int y0]) h Q ↔ Q (some (.int y0)) h) ∧
  (∀ (x0 : Nat) (x1 : Int32) (x2 : Int32) (x3 : Value) (y0 : Nat) (h : AH) (Q : Option Value → AH → Prop) (ht : hT h y0 = 13), WP 165 36 [.ref x0, .int x1, .int x2, x3] ([.ref y0]) h Q ↔ WPM 161 [.ref y0] h (fun r h' => WP 165 39 [.ref x0, .int x1, .int x2, x3] (r.toList ++ []) h' Q)) ∧
  (∀ (x0 : Nat) (x1 : Int32) (x2 : Int32) (x3 : Value) (y0 : Int32) (st : List Value) (h : AH) (Q : Option Value → AH → Prop), WP 165 39 [.ref x0, .int x1, .int x2, x3] (.int y0 :: st) h Q ↔ ((y0 = 0 → WP 165 110 [.ref x0, .int x1, .int x2, x3] (st) h Q) ∧ (¬ y0 = 0 → WP 165 42 [.ref x0, .int x1, .int x2, x3] (st) h Q))) ∧
  (∀ (x0 : Nat) (x1 : Int32) (x2 : Int32) (x3 : Value) (st : List Value) (h : AH) (Q : Option Value → AH → Prop), WP 165 42 [.ref x0, .int x1, .int x2, x3] (st) h Q ↔ WP 165 43 [.ref x0, .int x1, .int x2, x3] (.ref x0 :: st) h Q) ∧
  (∀ (x0 : Nat) (x1 : Int32) (x2 : Int32) (x3 : Value) (st : List Value) (h : AH) (Q : Option Value → AH → Prop), WP 165 43 [.ref x0, .int x1, .int x2, x3] (st) h Q ↔ WP 165 44 [.ref x0, .int x1, .int x2, x3] (.int (1) :: st) h Q) ∧
  (∀ (x0 : Nat) (x1 : Int32) (x2 : Int32) (x3 : Value) (y1 : Nat) (y0 : Int32) (h : AH) (Q : Option Value → AH → Prop) (ht : hT h y1 = 13), WP 165 44 [.ref x0, .int x1, .int x2, x3] ([.int y0, .ref y1]) h Q ↔ WPM 162 [.ref y1, .int y0] h (fun r h' => WP 165 47 [.ref x0, .int x1, .int x2, x3] (r.toList ++ []) h' Q)) ∧
  (∀ (x0 : Nat) (x1 : Int32) (x2 : Int32) (x3 : Value) (y0 : Int32) (st : List Value) (h : AH) (Q : Option Value → AH → Prop), WP 165 47 [.ref x0, .int x1, .int x2, x3] (.int y0 :: st) h Q ↔ WP 165 48 [.ref x0, .int x1, .int x2, .int y0] (st) h Q) ∧
  (∀ (x0 : Nat) (x1 : Int32) (x2 : Int32) (x3 : Int32) (st : List Value) (h : AH) (Q : Option Value → AH → Prop), WP 165 48 [.ref x0, .int x1, .int x2, .int x3] (st) h Q ↔ WP 165 49 [.ref x0, .int x1, .int x2, .int x3] (.int x3 :: st) h Q) ∧
  (∀ (x0 : Nat) (x1 : Int32) (x2 : Int32) (x3 : Int32) (y0 : Int32) (st : List Value) (h : AH) (Q : Option Value → AH → Prop), WP 165 49 [.ref x0, .int x1, .int x2, .int x3] (.int y0 :: st) h Q ↔ ((y0 < 0 → WP 165 66 [.ref x0, .int x1, .int x2, .int x3] (st) h Q) ∧ (¬ y0 < 0 → WP 165 52 [.ref x0, .int x1, .int x2, .int x3] (st) h Q))) ∧
  (∀ (x0 : Nat) (x1 : Int32) (x2 : Int32) (x3 : Int32) (st : List Value) (h : AH) (Q : Option Value → AH → Prop), WP 165 52 [.ref x0, .int x1, .int x2, .int x3] (st) h Q ↔ WP 165 53 [.ref x0, .int x1, .int x2, .int x3] (.ref x0 :: st) h Q) ∧
  (∀ (x0 : Nat) (x1 : Int32) (x2 : Int32) (x3 : Int32) (y0 : Nat) (st : List Value) (h : AH) (Q : Option Value → AH → Prop) (ht : hT h y0 = 13), WP 165 53 [.ref x0, .int x1, .int x2, .int x3] (.ref y0 :: st) h Q ↔ WP 165 56 [.ref x0, .int x1, .int x2, .int x3] (.ref (hR h y0 6) :: st) h Q) ∧
  (∀ (x0 : Nat) (x1 : Int32) (x2 : Int32) (x3 : Int32) (st : List Value) (h : AH) (Q : Option Value → AH → Prop), WP 165 56 [.ref x0, .int x1, .int x2, .int x3] (st) h Q ↔ WP 165 57 [.ref x0, .int x1, .int x2, .int x3] (.int x1 :: st) h Q) ∧
  (∀ (x0 : Nat) (x1 : Int32) (x2 : Int32) (x3 : Int32) (y0 : Int32) (y1 : Nat) (st : List Value) (h : AH) (Q : Option Value → AH → Prop) (ht : hT h y1 = 100 ∨ hT h y1 = 110) (hi : inb y0 (hL h y1) = true), WP 165 57 [.ref x0, .int x1, .int x2, .int x3] (.int y0 :: .ref y1 :: st) h Q ↔ WP 165 58 [.ref x0, .int x1, .int x2, .int x3] (.int (hI h y1 y0.toNatClampNeg) :: st) h Q) ∧
  (∀ (x0 : Nat) (x1 : Int32) (x2 : Int32) (x3 : Int32) (st : List Value) (h : AH) (Q : Option Value → AH → Prop), WP 165 58 [.ref x0, .int x1, .int x2, .int x3] (st) h Q ↔ WP 165 59 [.ref x0, .int x1, .int x2, .int x3] (.int x3 :: st) h Q) ∧
  (∀ (x0 : Nat) (x1 : Int32) (x2 : Int32) (x3 : Int32) (y0 : Int32) (y1 : Int32) (st : List Value) (h : AH) (Q : Option Value → AH → Prop), WP 165 59 [.ref x0, .int x1, .int x2, .int x3] (.int y0 :: .int y1 :: st) h Q ↔ WP 165 60 [.ref x0, .int x1, .int x2, .int x3] (.int (y1 >>> (y0 &&& 31)) :: st) h Q) ∧
  (∀ (x0 : Nat) (x1 : Int32) (x2 : Int32) (x3 : Int32) (st : List Value) (h : AH) (Q : Option Value → AH → Prop), WP 165 60 [.ref x0, .int x1, .int x2, .int x3] (st) h Q ↔ WP 165 61 [.ref x0, .int x1, .int x2, .int x3] (.int (1) :: st) h Q) ∧
  (∀ (x0 : Nat) (x1 : Int32) (x2 : Int32) (x3 : Int32) (y0 : Int32) (y1 : Int32) (st : List Value) (h : AH) (Q : Option Value → AH → Prop), WP 165 61 [.ref x0, .int x1, .int x2, .int x3] (.int y0 :: .int y1 :: st) h Q ↔ WP 165 62 [.ref x0, .int x1, .int x2, .int x3] (.int (y1 &&& y0) :: st) h Q) ∧
  (∀ (x0 : Nat) (x1 : Int32) (x2 : Int32) (x3 : Int32) (st : List Value) (h : AH) (Q : Option Value → AH → Prop), WP 165 62 [.ref x0, .int x1, .int x2, .int x3] (st) h Q ↔ WP 165 63 [.ref x0, .int x1, .int x2, .int x3] (.int (1) :: st) h Q) ∧
  (∀ (x0 : Nat) (x1 : Int32) (x2 : Int32) (x3 : Int32) (y0 : Int32) (y1 : Int32) (st : List Value) (h : AH) (Q : Option Value → AH → Prop), WP 165 63 [.ref x0, .int x1, .int x2, .int x3] (.int y0 :: .int y1 :: st) h Q ↔ ((¬ y1 = y0 → WP 165 72 [.ref x0, .int x1, .int x2, .int x3] (st) h Q) ∧ (y1 = y0 → WP 165 66 [.ref x0, .int x1, .int x2, .int x3] (st) h Q))) ∧
  (∀ (x0 : Nat) (x1 : Int32) (x2 : Int32) (x3 : Int32) (st : List Value) (h : AH) (Q : Option Value → AH → Prop), WP 165 66 [.ref x0, .int x1, .int x2, .int x3] (st) h Q ↔ WP 165 67 [.ref x0, .int x1, .int x2, .int x3] (.ref x0 :: st) h Q) ∧
  (∀ (x0 : Nat) (x1 : Int32) (x2 : Int32) (x3 : Int32) (st : List Value) (h : AH) (Q : Option Value → AH → Prop), WP 165 67 [.ref x0, .int x1, .int x2, .int x3] (st) h Q ↔ WP 165 68 [.ref x0, .int x1, .int x2, .int x3] (.int (3) :: st) h Q) ∧
  (∀ (x0 : Nat) (x1 : Int32) (x2 : Int32) (x3 : Int32) (y1 : Nat) (y0 : Int32) (h : AH) (Q : Option Value → AH → Prop) (ht : hT h y1 = 13), WP 165 68 [.ref x0, .int x1, .int x2, .int x3] ([.int y0, .ref y1]) h Q ↔ WPM 157 [.ref y1, .int y0] h (fun r h' => WP 165 71 [.ref x0, .int x1, .int x2, .int x3] (r.toList ++ []) h' Q)) :=
  ⟨fun _ _ _ _ _ => WP_s (show ct 165 0 = some (.aload_n 0, 0, []) by decide +kernel) rfl,
  fun _ _ _ _ _ => WP_s (show ct 165 1 = some (.ldc2_w 172, 0, [28518, 1507]) by decide +kernel) rfl,
  fun _ _ _ _ _ _ ht => WC_1 (show ct 165 4 = some (.invokevirtual 182, 3, [158, 2, 1, 13, 0, 1489, 1491, 61]) by decide +kernel) (Nat.le_of_ble_eq_true rfl) (Nat.le_of_ble_eq_true rfl) rfl rfl ht,
  fun _ _ _ _ _ _ => WZ_ne (show ct 165 7 = some (.ifCond .ne 9, 0, [16]) by decide +kernel) (by decide),
  fun _ _ _ _ _ => WP_s (show ct 165 10 = some (.aload_n 0, 0, []) by decide +kernel) rfl,
  fun _ _ _ _ _ => WP_s (show ct 165 11 = some (.iconst 1, 0, []) by decide +kernel) rfl,
  fun _ _ _ _ _ _ ht => WC_1 (show ct 165 12 = some (.invokevirtual 162, 3, [157, 2, 1, 13, 0, 1495, 1497, 62]) by decide +kernel) (Nat.le_of_ble_eq_true rfl) (Nat.le_of_ble_eq_true rfl) rfl rfl ht,
  fun _ _ _ _ _ hz => WR_z (show ct 165 15 = some (.ireturn, 2, [1]) by decide +kernel) hz,
  fun _ _ _ _ _ => WP_s (show ct 165 16 = some (.aload_n 0, 0, []) by decide +kernel) rfl,
  fun _ _ _ _ _ ht => WC_1 (show ct 165 17 = some (.invokevirtual 165, 3, [156, 1, 1, 13, 0, 1470, 1472, 58]) by decide +kernel) (Nat.le_of_ble_eq_true rfl) (Nat.le_of_ble_eq_true rfl) rfl rfl ht,
  fun _ _ _ _ _ => WP_s (show ct 165 20 = some (.iconst 0, 0, []) by decide +kernel) rfl,
  fun _ _ _ _ _ _ => WP_s (show ct 165 21 = some (.istore_n 2, 0, []) by decide +kernel) rfl,
  fun _ _ _ _ _ _ => WP_s (show ct 165 22 = some (.aload_n 0, 0, []) by decide +kernel) rfl,
  fun _ _ _ _ _ _ ht => WC_1 (show ct 165 23 = some (.invokevirtual 197, 3, [161, 1, 1, 13, 0, 1503, 1505, 64]) by decide +kernel) (Nat.le_of_ble_eq_true rfl) (Nat.le_of_ble_eq_true rfl) rfl rfl ht,
  fun _ _ _ _ _ _ _ => WZ_ne (show ct 165 26 = some (.ifCond .ne 9, 0, [35]) by decide +kernel) (by decide),
  fun _ _ _ _ _ _ => WP_s (show ct 165 29 = some (.aload_n 0, 0, []) by decide +kernel) rfl,
  fun _ _ _ _ _ _ => WP_s (show ct 165 30 = some (.iconst 1, 0, []) by decide +kernel) rfl,
  fun _ _ _ _ _ _ _ ht => WC_1 (show ct 165 31 = some (.invokevirtual 162, 3, [157, 2, 1, 13, 0, 1495, 1497, 62]) by decide +kernel) (Nat.le_of_ble_eq_true rfl) (Nat.le_of_ble_eq_true rfl) rfl rfl ht,
  fun _ _ _ _ _ _ hz => WR_z (show ct 165 34 = some (.ireturn, 2, [1]) by decide +kernel) hz,
  fun _ _ _ _ _ _ _ ht => WC_1 (show ct 165 36 = some (.invokevirtual 197, 3, [161, 1, 1, 13, 0, 1503, 1505, 64]) by decide +kernel) (Nat.le_of_ble_eq_true rfl) (Nat.le_of_ble_eq_true rfl) rfl rfl ht,
  fun _ _ _ _ _ _ _ _ => WZ_eq (show ct 165 39 = some (.ifCond .eq 71, 0, [110]) by decide +kernel) (by decide),
  fun _ _ _ _ _ _ _ => WP_s (show ct 165 42 = some (.aload_n 0, 0, []) by decide +kernel) rfl,
  fun _ _ _ _ _ _ _ => WP_s (show ct 165 43 = some (.iconst 1, 0, []) by decide +kernel) rfl,
  fun _ _ _ _ _ _ _ _ ht => WC_1 (show ct 165 44 = some (.invokevirtual 200, 3, [162, 2, 1, 13, 0, 1511, 1513, 65]) by decide +kernel) (Nat.le_of_ble_eq_true rfl) (Nat.le_of_ble_eq_true rfl) rfl rfl ht,
  fun _ _ _ _ _ _ _ _ => WP_s (show ct 165 47 = some (.istore_n 3, 0, []) by decide +kernel) rfl,
  fun _ _ _ _ _ _ _ => WP_s (show ct 165 48 = some (.iload_n 3, 0, []) by decide +kernel) rfl,
  fun _ _ _ _ _ _ _ _ => WZ_lt (show ct 165 49 = some (.ifCond .lt 17, 0, [66]) by decide +kernel) (by decide),
  fun _ _ _ _ _ _ _ => WP_s (show ct 165 52 = some (.aload_n 0, 0, []) by decide +kernel) rfl,
  fun _ _ _ _ _ _ _ _ ht => WH_gR (show ct 165 53 = some (.getfield 17, 1, [12, 6, 2, 1279]) by decide +kernel) ht,
  fun _ _ _ _ _ _ _ => WP_s (show ct 165 56 = some (.iload_n 1, 0, []) by decide +kernel) rfl,
  fun _ _ _ _ _ _ _ _ _ ht hi => WH_iald (show ct 165 57 = some (.iaload, 1, []) by decide +kernel) ht hi,
  fun _ _ _ _ _ _ _ => WP_s (show ct 165 58 = some (.iload_n 3, 0, []) by decide +kernel) rfl,
  fun _ _ _ _ _ _ _ _ _ => WP_s (show ct 165 59 = some (.ishr, 0, []) by decide +kernel) rfl,
  fun _ _ _ _ _ _ _ => WP_s (show ct 165 60 = some (.iconst 1, 0, []) by decide +kernel) rfl,
  fun _ _ _ _ _ _ _ _ _ => WP_s (show ct 165 61 = some (.iand, 0, []) by decide +kernel) rfl,
  fun _ _ _ _ _ _ _ => WP_s (show ct 165 62 = some (.iconst 1, 0, []) by decide +kernel) rfl,
  fun _ _ _ _ _ _ _ _ _ => WI_ne (show ct 165 63 = some (.if_icmp .ne 9, 0, [72]) by decide +kernel) (by decide),
  fun _ _ _ _ _ _ _ => WP_s (show ct 165 66 = some (.aload_n 0, 0, []) by decide +kernel) rfl,
  fun _ _ _ _ _ _ _ => WP_s (show ct 165 67 = some (.iconst 3, 0, []) by decide +kernel) rfl,
  fun _ _ _ _ _ _ _ _ ht => WC_1 (show ct 165 68 = some (.invokevirtual 162, 3, [157, 2, 1, 13, 0, 1495, 1497, 62]) by decide +kernel) (Nat.le_of_ble_eq_true rfl) (Nat.le_of_ble_eq_true rfl) rfl rfl ht⟩
set_option maxRecDepth 10000 in
theorem w165_b : (∀ (x0 : Nat) (x1 : Int32) (x2 : Int32) (x3 : Int32) (y0 : Int32) (h : AH) (Q : Option Value → AH → Prop) (hz : y0 = 0 ∨ y0 = 1), WP 165 71 [.ref x0, .int x1, .int x2, .int x3] ([.int y0]) h Q ↔ Q (some (.int y0)) h) ∧
  (∀ (x0 : Nat) (x1 : Int32) (x2 : Int32) (x3 : Int32) (st : List Value) (h : AH) (Q : Option Value → AH → Prop), WP 165 72 [.ref x0, .int x1, .int x2, .int x3] (st) h Q ↔ WP 165 73 [.ref x0, .int x1, .int x2, .int x3] (.int x2 :: st) h Q) ∧
  (∀ (x0 : Nat) (x1 : Int32) (x2 : Int32) (x3 : Int32) (st : List Value) (h : AH) (Q : Option Value → AH → Prop), WP 165 73 [.ref x0, .int x1, .int x2, .int x3] (st) h Q ↔ WP 165 75 [.ref x0, .int x1, .int x2, .int x3] (.int (6) :: st) h Q) ∧
  (∀ (x0 : Nat) (x1 : Int32) (x2 : Int32) (x3 : Int32) (y0 : Int32) (y1 : Int32) (st : List Value) (h : AH) (Q : Option Value → AH → Prop), WP 165 75 [.ref x0, .int x1, .int x2, .int x3] (.int y0 :: .int y1 :: st) h Q ↔ ((¬ y1 = y0 → WP 165 84 [.ref x0, .int x1, .int x2, .int x3] (st) h Q) ∧ (y1 = y0 → WP 165 78 [.ref x0, .int x1, .int x2, .int x3] (st) h Q))) ∧
  (∀ (x0 : Nat) (x1 : Int32) (x2 : Int32) (x3 : Int32) (st : List Value) (h : AH) (Q : Option Value → AH → Prop), WP 165 78 [.ref x0, .int x1, .int x2, .int x3] (st) h Q ↔ WP 165 79 [.ref x0, .int x1, .int x2, .int x3] (.ref x0 :: st) h Q) ∧
  (∀ (x0 : Nat) (x1 : Int32) (x2 : Int32) (x3 : Int32) (st : List Value) (h : AH) (Q : Option Value → AH → Prop), WP 165 79 [.ref x0, .int x1, .int x2, .int x3] (st) h Q ↔ WP 165 80 [.ref x0, .int x1, .int x2, .int x3] (.int (4) :: st) h Q) ∧
  (∀ (x0 : Nat) (x1 : Int32) (x2 : Int32) (x3 : Int32) (y1 : Nat) (y0 : Int32) (h : AH) (Q : Option Value → AH → Prop) (ht : hT h y1 = 13), WP 165 80 [.ref x0, .int x1, .int x2, .int x3] ([.int y0, .ref y1]) h Q ↔ WPM 157 [.ref y1, .int y0] h (fun r h' => WP 165 83 [.ref x0, .int x1, .int x2, .int x3] (r.toList ++ []) h' Q)) ∧
  (∀ (x0 : Nat) (x1 : Int32) (x2 : Int32) (x3 : Int32) (y0 : Int32) (h : AH) (Q : Option Value → AH → Prop) (hz : y0 = 0 ∨ y0 = 1), WP 165 83 [.ref x0, .int x1, .int x2, .int x3] ([.int y0]) h Q ↔ Q (some (.int y0)) h) ∧
  (∀ (x0 : Nat) (x1 : Int32) (x2 : Int32) (x3 : Int32) (st : List Value) (h : AH) (Q : Option Value → AH → Prop), WP 165 84 [.ref x0, .int x1, .int x2, .int x3] (st) h Q ↔ WP 165 85 [.ref x0, .int x1, .int x2, .int x3] (.ref x0 :: st) h Q) ∧
  (∀ (x0 : Nat) (x1 : Int32) (x2 : Int32) (x3 : Int32) (y0 : Nat) (st : List Value) (h : AH) (Q : Option Value → AH → Prop) (ht : hT h y0 = 13), WP 165 85 [.ref x0, .int x1, .int x2, .int x3] (.ref y0 :: st) h Q ↔ WP 165 88 [.ref x0, .int x1, .int x2, .int x3] (.ref (hR h y0 6) :: st) h Q) ∧
  (∀ (x0 : Nat) (x1 : Int32) (x2 : Int32) (x3 : Int32) (st : List Value) (h : AH) (Q : Option Value → AH → Prop), WP 165 88 [.ref x0, .int x1, .int x2, .int x3] (st) h Q ↔ WP 165 89 [.ref x0, .int x1, .int x2, .int x3] (.int x1 :: st) h Q) ∧
  (∀ (x0 : Nat) (x1 : Int32) (x2 : Int32) (x3 : Int32) (st : List Value) (h : AH) (Q : Option Value → AH → Prop), WP 165 89 [.ref x0, .int x1, .int x2, .int x3] (st) h Q ↔ WP 165 90 [.ref x0, .int x1, .int x2, .int x3] (.ref x0 :: st) h Q) ∧
  (∀ (x0 : Nat) (x1 : Int32) (x2 : Int32) (x3 : Int32) (y0 : Nat) (st : List Value) (h : AH) (Q : Option Value → AH → Prop) (ht : hT h y0 = 13), WP 165 90 [.ref x0, .int x1, .int x2, .int x3] (.ref y0 :: st) h Q ↔ WP 165 93 [.ref x0, .int x1, .int x2, .int x3] (.ref (hR h y0 6) :: st) h Q) ∧
  (∀ (x0 : Nat) (x1 : Int32) (x2 : Int32) (x3 : Int32) (st : List Value) (h : AH) (Q : Option Value → AH → Prop), WP 165 93 [.ref x0, .int x1, .int x2, .int x3] (st) h Q ↔ WP 165 94 [.ref x0, .int x1, .int x2, .int x3] (.int x1 :: st) h Q) ∧
  (∀ (x0 : Nat) (x1 : Int32) (x2 : Int32) (x3 : Int32) (y0 : Int32) (y1 : Nat) (st : List Value) (h : AH) (Q : Option Value → AH → Prop) (ht : hT h y1 = 100 ∨ hT h y1 = 110) (hi : inb y0 (hL h y1) = true), WP 165 94 [.ref x0, .int x1, .int x2, .int x3] (.int y0 :: .ref y1 :: st) h Q ↔ WP 165 95 [.ref x0, .int x1, .int x2, .int x3] (.int (hI h y1 y0.toNatClampNeg) :: st) h Q) ∧
  (∀ (x0 : Nat) (x1 : Int32) (x2 : Int32) (x3 : Int32) (st : List Value) (h : AH) (Q : Option Value → AH → Prop), WP 165 95 [.ref x0, .int x1, .int x2, .int x3] (st) h Q ↔ WP 165 96 [.ref x0, .int x1, .int x2, .int x3] (.int (1) :: st) h Q) ∧
  (∀ (x0 : Nat) (x1 : Int32) (x2 : Int32) (x3 : Int32) (st : List Value) (h : AH) (Q : Option Value → AH → Prop), WP 165 96 [.ref x0, .int x1, .int x2, .int x3] (st) h Q ↔ WP 165 97 [.ref x0, .int x1, .int x2, .int x3] (.int x3 :: st) h Q) ∧
  (∀ (x0 : Nat) (x1 : Int32) (x2 : Int32) (x3 : Int32) (y0 : Int32) (y1 : Int32) (st : List Value) (h : AH) (Q : Option Value → AH → Prop), WP 165 97 [.ref x0, .int x1, .int x2, .int x3] (.int y0 :: .int y1 :: st) h Q ↔ WP 165 98 [.ref x0, .int x1, .int x2, .int x3] (.int (y1 <<< (y0 &&& 31)) :: st) h Q) ∧
  (∀ (x0 : Nat) (x1 : Int32) (x2 : Int32) (x3 : Int32) (y0 : Int32) (y1 : Int32) (st : List Value) (h : AH) (Q : Option Value → AH → Prop), WP 165 98 [.ref x0, .int x1, .int x2, .int x3] (.int y0 :: .int y1 :: st) h Q ↔ WP 165 99 [.ref x0, .int x1, .int x2, .int x3] (.int (y1 ||| y0) :: st) h Q) ∧
  (∀ (x0 : Nat) (x1 : Int32) (x2 : Int32) (x3 : Int32) (y0 : Int32) (y1 : Int32) (y2 : Nat) (st : List Value) (h : AH) (Q : Option Value → AH → Prop) (ht : hT h y2 = 100) (hi : inb y1 (hL h y2) = true), WP 165 99 [.ref x0, .int x1, .int x2, .int x3] (.int y0 :: .int y1 :: .ref y2 :: st) h Q ↔ WP 165 100 [.ref x0, .int x1, .int x2, .int x3] (st) (sI h y2 y1.toNatClampNeg y0) Q) ∧
  (∀ (x0 : Nat) (x1 : Int32) (x2 : Int32) (x3 : Int32) (st : List Value) (h : AH) (Q : Option Value → AH → Prop), WP 165 100 [.ref x0, .int x1, .int x2, .int x3] (st) h Q ↔ WP 165 103 [.ref x0, .int x1, .int (x2 + (1)), .int x3] (st) h Q) ∧
  (∀ (x0 : Nat) (x1 : Int32) (x2 : Int32) (x3 : Int32) (st : List Value) (h : AH) (Q : Option Value → AH → Prop), WP 165 103 [.ref x0, .int x1, .int x2, .int x3] (st) h Q ↔ WP 165 104 [.ref x0, .int x1, .int x2, .int x3] (.ref x0 :: st) h Q) ∧
  (∀ (x0 : Nat) (x1 : Int32) (x2 : Int32) (x3 : Int32) (y0 : Nat) (h : AH) (Q : Option Value → AH → Prop) (ht : hT h y0 = 13), WP 165 104 [.ref x0, .int x1, .int x2, .int x3] ([.ref y0]) h Q ↔ WPM 156 [.ref y0] h (fun r h' => WP 165 107 [.ref x0, .int x1, .int x2, .int x3] (r.toList ++ []) h' Q)) ∧
  (∀ (x0 : Nat) (x1 : Int32) (x2 : Int32) (x3 : Int32) (st : List Value) (h : AH) (Q : Option Value → AH → Prop), WP 165 107 [.ref x0, .int x1, .int x2, .int x3] (st) h Q ↔ WP 165 35 [.ref x0, .int x1, .int x2, .int x3] (st) h Q) ∧
  (∀ (x0 : Nat) (x1 : Int32) (x2 : Int32) (x3 : Value) (st : List Value) (h : AH) (Q : Option Value → AH → Prop), WP 165 110 [.ref x0, .int x1, .int x2, x3] (st) h Q ↔ WP 165 111 [.ref x0, .int x1, .int x2, x3] (.int (1) :: st) h Q) ∧
  (∀ (x0 : Nat) (x1 : Int32) (x2 : Int32) (x3 : Value) (y0 : Int32) (h : AH) (Q : Option Value → AH → Prop) (hz : y0 = 0 ∨ y0 = 1), WP 165 111 [.ref x0, .int x1, .int x2, x3] ([.int y0]) h Q ↔ Q (some (.int y0)) h) :=
  ⟨fun _ _ _ _ _ _ _ hz => WR_z (show ct 165 71 = some (.ireturn, 2, [1]) by decide +kernel) hz,
  fun _ _ _ _ _ _ _ => WP_s (show ct 165 72 = some (.iload_n 2, 0, []) by decide +kernel) rfl,
  fun _ _ _ _ _ _ _ => WP_s (show ct 165 73 = some (.bipush 6, 0, []) by decide +kernel) rfl,
  fun _ _ _ _ _ _ _ _ _ => WI_ne (show ct 165 75 = some (.if_icmp .ne 9, 0, [84]) by decide +kernel) (by decide),
  fun _ _ _ _ _ _ _ => WP_s (show ct 165 78 = some (.aload_n 0, 0, []) by decide +kernel) rfl,
  fun _ _ _ _ _ _ _ => WP_s (show ct 165 79 = some (.iconst 4, 0, []) by decide +kernel) rfl,
  fun _ _ _ _ _ _ _ _ ht => WC_1 (show ct 165 80 = some (.invokevirtual 162, 3, [157, 2, 1, 13, 0, 1495, 1497, 62]) by decide +kernel) (Nat.le_of_ble_eq_true rfl) (Nat.le_of_ble_eq_true rfl) rfl rfl ht,
  fun _ _ _ _ _ _ _ hz => WR_z (show ct 165 83 = some (.ireturn, 2, [1]) by decide +kernel) hz,
  fun _ _ _ _ _ _ _ => WP_s (show ct 165 84 = some (.aload_n 0, 0, []) by decide +kernel) rfl,
  fun _ _ _ _ _ _ _ _ ht => WH_gR (show ct 165 85 = some (.getfield 17, 1, [12, 6, 2, 1279]) by decide +kernel) ht,
  fun _ _ _ _ _ _ _ => WP_s (show ct 165 88 = some (.iload_n 1, 0, []) by decide +kernel) rfl,
  fun _ _ _ _ _ _ _ => WP_s (show ct 165 89 = some (.aload_n 0, 0, []) by decide +kernel) rfl,
  fun _ _ _ _ _ _ _ _ ht => WH_gR (show ct 165 90 = some (.getfield 17, 1, [12, 6, 2, 1279]) by decide +kernel) ht,
  fun _ _ _ _ _ _ _ => WP_s (show ct 165 93 = some (.iload_n 1, 0, []) by decide +kernel) rfl,
  fun _ _ _ _ _ _ _ _ _ ht hi => WH_iald (show ct 165 94 = some (.iaload, 1, []) by decide +kernel) ht hi,
  fun _ _ _ _ _ _ _ => WP_s (show ct 165 95 = some (.iconst 1, 0, []) by decide +kernel) rfl,
  fun _ _ _ _ _ _ _ => WP_s (show ct 165 96 = some (.iload_n 3, 0, []) by decide +kernel) rfl,
  fun _ _ _ _ _ _ _ _ _ => WP_s (show ct 165 97 = some (.ishl, 0, []) by decide +kernel) rfl,
  fun _ _ _ _ _ _ _ _ _ => WP_s (show ct 165 98 = some (.ior, 0, []) by decide +kernel) rfl,
  fun _ _ _ _ _ _ _ _ _ _ ht hi => WH_iast (show ct 165 99 = some (.iastore, 1, []) by decide +kernel) ht hi,
  fun _ _ _ _ _ _ _ => WP_s (show ct 165 100 = some (.iinc 2 1, 0, []) by decide +kernel) rfl,
  fun _ _ _ _ _ _ _ => WP_s (show ct 165 103 = some (.aload_n 0, 0, []) by decide +kernel) rfl,
  fun _ _ _ _ _ _ _ ht => WC_1 (show ct 165 104 = some (.invokevirtual 165, 3, [156, 1, 1, 13, 0, 1470, 1472, 58]) by decide +kernel) (Nat.le_of_ble_eq_true rfl) (Nat.le_of_ble_eq_true rfl) rfl rfl ht,
  fun _ _ _ _ _ _ _ => WP_s (show ct 165 107 = some (.goto (-72), 0, [35]) by decide +kernel) rfl,
  fun _ _ _ _ _ _ _ => WP_s (show ct 165 110 = some (.iconst 1, 0, []) by decide +kernel) rfl,
  fun _ _ _ _ _ _ _ hz => WR_z (show ct 165 111 = some (.ireturn, 2, [1]) by decide +kernel) hz⟩
/-- all of 165 -/
def w165_n : Nat := 2
/-! 166: FewBowlsModel.wish()Z; loop heads [13] -/
theorem w166_13 : ∀ (x0 : Nat) (x1 : Value) (st : List Value) (h : AH) (Q : Option Value → AH → Prop), WP 166 13 [.ref x0, x1] (st) h Q ↔ WP 166 14 [.ref x0, x1] (.ref x0 :: st) h Q := fun _ _ _ _ _ => WP_s (show ct 166 13 = some (.aload_n 0, 0, []) by decide +kernel) rfl
set_option maxRecDepth 10000 in
theorem w166_a : (∀ (x0 : Nat) (st : List Value) (h : AH) (Q : Option Value → AH → Prop), WP 166 0 [.ref x0, .retAddr 0] (st) h Q ↔ WP 166 1 [.ref x0, .retAddr 0] (.ref x0 :: st) h Q) ∧
  (∀ (x0 : Nat) (y0 : Nat) (h : AH) (Q : Option Value → AH → Prop) (ht : hT h y0 = 13), WP 166 1 [.ref x0, .retAddr 0] ([.ref y0]) h Q ↔ WPM 161 [.ref y0] h (fun r h' => WP 166 4 [.ref x0, .retAddr 0] (r.toList ++ []) h' Q)) ∧
  (∀ (x0 : Nat) (y0 : Int32) (st : List Value) (h : AH) (Q : Option Value → AH → Prop), WP 166 4 [.ref x0, .retAddr 0] (.int y0 :: st) h Q ↔ ((¬ y0 = 0 → WP 166 13 [.ref x0, .retAddr 0] (st) h Q) ∧ (y0 = 0 → WP 166 7 [.ref x0, .retAddr 0] (st) h Q))) ∧
  (∀ (x0 : Nat) (st : List Value) (h : AH) (Q : Option Value → AH → Prop), WP 166 7 [.ref x0, .retAddr 0] (st) h Q ↔ WP 166 8 [.ref x0, .retAddr 0] (.ref x0 :: st) h Q) ∧
  (∀ (x0 : Nat) (st : List Value) (h : AH) (Q : Option Value → AH → Prop), WP 166 8 [.ref x0, .retAddr 0] (st) h Q ↔ WP 166 9 [.ref x0, .retAddr 0] (.int (1) :: st) h Q) ∧
  (∀ (x0 : Nat) (y1 : Nat) (y0 : Int32) (h : AH) (Q : Option Value → AH → Prop) (ht : hT h y1 = 13), WP 166 9 [.ref x0, .retAddr 0] ([.int y0, .ref y1]) h Q ↔ WPM 157 [.ref y1, .int y0] h (fun r h' => WP 166 12 [.ref x0, .retAddr 0] (r.toList ++ []) h' Q)) ∧
  (∀ (x0 : Nat) (y0 : Int32) (h : AH) (Q : Option Value → AH → Prop) (hz : y0 = 0 ∨ y0 = 1), WP 166 12 [.ref x0, .retAddr 0] ([.int y0]) h Q ↔ Q (some (.int y0)) h) ∧
  (∀ (x0 : Nat) (x1 : Value) (y0 : Nat) (h : AH) (Q : Option Value → AH → Prop) (ht : hT h y0 = 13), WP 166 14 [.ref x0, x1] ([.ref y0]) h Q ↔ WPM 161 [.ref y0] h (fun r h' => WP 166 17 [.ref x0, x1] (r.toList ++ []) h' Q)) ∧
  (∀ (x0 : Nat) (x1 : Value) (y0 : Int32) (st : List Value) (h : AH) (Q : Option Value → AH → Prop), WP 166 17 [.ref x0, x1] (.int y0 :: st) h Q ↔ ((y0 = 0 → WP 166 73 [.ref x0, x1] (st) h Q) ∧ (¬ y0 = 0 → WP 166 20 [.ref x0, x1] (st) h Q))) ∧
  (∀ (x0 : Nat) (x1 : Value) (st : List Value) (h : AH) (Q : Option Value → AH → Prop), WP 166 20 [.ref x0, x1] (st) h Q ↔ WP 166 21 [.ref x0, x1] (.ref x0 :: st) h Q) ∧
  (∀ (x0 : Nat) (x1 : Value) (st : List Value) (h : AH) (Q : Option Value → AH → Prop), WP 166 21 [.ref x0, x1] (st) h Q ↔ WP 166 22 [.ref x0, x1] (.int (1) :: st) h Q) ∧
  (∀ (x0 : Nat) (x1 : Value) (y1 : Nat) (y0 : Int32) (h : AH) (Q : Option Value → AH → Prop) (ht : hT h y1 = 13), WP 166 22 [.ref x0, x1] ([.int y0, .ref y1]) h Q ↔ WPM 162 [.ref y1, .int y0] h (fun r h' => WP 166 25 [.ref x0, x1] (r.toList ++ []) h' Q)) ∧
  (∀ (x0 : Nat) (x1 : Value) (y0 : Int32) (st : List Value) (h : AH) (Q : Option Value → AH → Prop), WP 166 25 [.ref x0, x1] (.int y0 :: st) h Q ↔ WP 166 26 [.ref x0, .int y0] (st) h Q) ∧
  (∀ (x0 : Nat) (x1 : Int32) (st : List Value) (h : AH) (Q : Option Value → AH → Prop), WP 166 26 [.ref x0, .int x1] (st) h Q ↔ WP 166 27 [.ref x0, .int x1] (.int x1 :: st) h Q) ∧
  (∀ (x0 : Nat) (x1 : Int32) (y0 : Int32) (st : List Value) (h : AH) (Q : Option Value → AH → Prop), WP 166 27 [.ref x0, .int x1] (.int y0 :: st) h Q ↔ ((y0 < 0 → WP 166 44 [.ref x0, .int x1] (st) h Q) ∧ (¬ y0 < 0 → WP 166 30 [.ref x0, .int x1] (st) h Q))) ∧
  (∀ (x0 : Nat) (x1 : Int32) (st : List Value) (h : AH) (Q : Option Value → AH → Prop), WP 166 30 [.ref x0, .int x1] (st) h Q ↔ WP 166 31 [.ref x0, .int x1] (.ref x0 :: st) h Q) ∧
  (∀ (x0 : Nat) (x1 : Int32) (y0 : Nat) (st : List Value) (h : AH) (Q : Option Value → AH → Prop) (ht : hT h y0 = 13), WP 166 31 [.ref x0, .int x1] (.ref y0 :: st) h Q ↔ WP 166 34 [.ref x0, .int x1] (.ref (hR h y0 9) :: st) h Q) ∧
  (∀ (x0 : Nat) (x1 : Int32) (st : List Value) (h : AH) (Q : Option Value → AH → Prop), WP 166 34 [.ref x0, .int x1] (st) h Q ↔ WP 166 35 [.ref x0, .int x1] (.int (1) :: st) h Q) ∧
  (∀ (x0 : Nat) (x1 : Int32) (y0 : Int32) (y1 : Nat) (st : List Value) (h : AH) (Q : Option Value → AH → Prop) (ht : hT h y1 = 100 ∨ hT h y1 = 110) (hi : inb y0 (hL h y1) = true), WP 166 35 [.ref x0, .int x1] (.int y0 :: .ref y1 :: st) h Q ↔ WP 166 36 [.ref x0, .int x1] (.int (hI h y1 y0.toNatClampNeg) :: st) h Q) ∧
  (∀ (x0 : Nat) (x1 : Int32) (st : List Value) (h : AH) (Q : Option Value → AH → Prop), WP 166 36 [.ref x0, .int x1] (st) h Q ↔ WP 166 37 [.ref x0, .int x1] (.int x1 :: st) h Q) ∧
  (∀ (x0 : Nat) (x1 : Int32) (y0 : Int32) (y1 : Int32) (st : List Value) (h : AH) (Q : Option Value → AH → Prop), WP 166 37 [.ref x0, .int x1] (.int y0 :: .int y1 :: st) h Q ↔ WP 166 38 [.ref x0, .int x1] (.int (y1 >>> (y0 &&& 31)) :: st) h Q) ∧
  (∀ (x0 : Nat) (x1 : Int32) (st : List Value) (h : AH) (Q : Option Value → AH → Prop), WP 166 38 [.ref x0, .int x1] (st) h Q ↔ WP 166 39 [.ref x0, .int x1] (.int (1) :: st) h Q) ∧
  (∀ (x0 : Nat) (x1 : Int32) (y0 : Int32) (y1 : Int32) (st : List Value) (h : AH) (Q : Option Value → AH → Prop), WP 166 39 [.ref x0, .int x1] (.int y0 :: .int y1 :: st) h Q ↔ WP 166 40 [.ref x0, .int x1] (.int (y1 &&& y0) :: st) h Q) ∧
  (∀ (x0 : Nat) (x1 : Int32) (st : List Value) (h : AH) (Q : Option Value → AH → Prop), WP 166 40 [.ref x0, .int x1] (st) h Q ↔ WP 166 41 [.ref x0, .int x1] (.int (1) :: st) h Q) ∧
  (∀ (x0 : Nat) (x1 : Int32) (y0 : Int32) (y1 : Int32) (st : List Value) (h : AH) (Q : Option Value → AH → Prop), WP 166 41 [.ref x0, .int x1] (.int y0 :: .int y1 :: st) h Q ↔ ((¬ y1 = y0 → WP 166 50 [.ref x0, .int x1] (st) h Q) ∧ (y1 = y0 → WP 166 44 [.ref x0, .int x1] (st) h Q))) ∧
  (∀ (x0 : Nat) (x1 : Int32) (st : List Value) (h : AH) (Q : Option Value → AH → Prop), WP 166 44 [.ref x0, .int x1] (st) h Q ↔ WP 166 45 [.ref x0, .int x1] (.ref x0 :: st) h Q) ∧
  (∀ (x0 : Nat) (x1 : Int32) (st : List Value) (h : AH) (Q : Option Value → AH → Prop), WP 166 45 [.ref x0, .int x1] (st) h Q ↔ WP 166 46 [.ref x0, .int x1] (.int (3) :: st) h Q) ∧
  (∀ (x0 : Nat) (x1 : Int32) (y1 : Nat) (y0 : Int32) (h : AH) (Q : Option Value → AH → Prop) (ht : hT h y1 = 13), WP 166 46 [.ref x0, .int x1] ([.int y0, .ref y1]) h Q ↔ WPM 157 [.ref y1, .int y0] h (fun r h' => WP 166 49 [.ref x0, .int x1] (r.toList ++ []) h' Q)) ∧
  (∀ (x0 : Nat) (x1 : Int32) (y0 : Int32) (h : AH) (Q : Option Value → AH → Prop) (hz : y0 = 0 ∨ y0 = 1), WP 166 49 [.ref x0, .int x1] ([.int y0]) h Q ↔ Q (some (.int y0)) h) ∧
  (∀ (x0 : Nat) (x1 : Int32) (st : List Value) (h : AH) (Q : Option Value → AH → Prop), WP 166 50 [.ref x0, .int x1] (st) h Q ↔ WP 166 51 [.ref x0, .int x1] (.ref x0 :: st) h Q) ∧
  (∀ (x0 : Nat) (x1 : Int32) (y0 : Nat) (st : List Value) (h : AH) (Q : Option Value → AH → Prop) (ht : hT h y0 = 13), WP 166 51 [.ref x0, .int x1] (.ref y0 :: st) h Q ↔ WP 166 54 [.ref x0, .int x1] (.ref (hR h y0 9) :: st) h Q) ∧
  (∀ (x0 : Nat) (x1 : Int32) (st : List Value) (h : AH) (Q : Option Value → AH → Prop), WP 166 54 [.ref x0, .int x1] (st) h Q ↔ WP 166 55 [.ref x0, .int x1] (.int (1) :: st) h Q) ∧
  (∀ (x0 : Nat) (x1 : Int32) (st : List Value) (h : AH) (Q : Option Value → AH → Prop), WP 166 55 [.ref x0, .int x1] (st) h Q ↔ WP 166 56 [.ref x0, .int x1] (.ref x0 :: st) h Q) ∧
  (∀ (x0 : Nat) (x1 : Int32) (y0 : Nat) (st : List Value) (h : AH) (Q : Option Value → AH → Prop) (ht : hT h y0 = 13), WP 166 56 [.ref x0, .int x1] (.ref y0 :: st) h Q ↔ WP 166 59 [.ref x0, .int x1] (.ref (hR h y0 9) :: st) h Q) ∧
  (∀ (x0 : Nat) (x1 : Int32) (st : List Value) (h : AH) (Q : Option Value → AH → Prop), WP 166 59 [.ref x0, .int x1] (st) h Q ↔ WP 166 60 [.ref x0, .int x1] (.int (1) :: st) h Q) ∧
  (∀ (x0 : Nat) (x1 : Int32) (y0 : Int32) (y1 : Nat) (st : List Value) (h : AH) (Q : Option Value → AH → Prop) (ht : hT h y1 = 100 ∨ hT h y1 = 110) (hi : inb y0 (hL h y1) = true), WP 166 60 [.ref x0, .int x1] (.int y0 :: .ref y1 :: st) h Q ↔ WP 166 61 [.ref x0, .int x1] (.int (hI h y1 y0.toNatClampNeg) :: st) h Q) ∧
  (∀ (x0 : Nat) (x1 : Int32) (st : List Value) (h : AH) (Q : Option Value → AH → Prop), WP 166 61 [.ref x0, .int x1] (st) h Q ↔ WP 166 62 [.ref x0, .int x1] (.int (1) :: st) h Q) ∧
  (∀ (x0 : Nat) (x1 : Int32) (st : List Value) (h : AH) (Q : Option Value → AH → Prop), WP 166 62 [.ref x0, .int x1] (st) h Q ↔ WP 166 63 [.ref x0, .int x1] (.int x1 :: st) h Q) ∧
  (∀ (x0 : Nat) (x1 : Int32) (y0 : Int32) (y1 : Int32) (st : List Value) (h : AH) (Q : Option Value → AH → Prop), WP 166 63 [.ref x0, .int x1] (.int y0 :: .int y1 :: st) h Q ↔ WP 166 64 [.ref x0, .int x1] (.int (y1 <<< (y0 &&& 31)) :: st) h Q) ∧
  (∀ (x0 : Nat) (x1 : Int32) (y0 : Int32) (y1 : Int32) (st : List Value) (h : AH) (Q : Option Value → AH → Prop), WP 166 64 [.ref x0, .int x1] (.int y0 :: .int y1 :: st) h Q ↔ WP 166 65 [.ref x0, .int x1] (.int (y1 ||| y0) :: st) h Q) :=
  ⟨fun _ _ _ _ => WP_s (show ct 166 0 = some (.aload_n 0, 0, []) by decide +kernel) rfl,
  fun _ _ _ _ ht => WC_1 (show ct 166 1 = some (.invokevirtual 197, 3, [161, 1, 1, 13, 0, 1503, 1505, 64]) by decide +kernel) (Nat.le_of_ble_eq_true rfl) (Nat.le_of_ble_eq_true rfl) rfl rfl ht,
  fun _ _ _ _ _ => WZ_ne (show ct 166 4 = some (.ifCond .ne 9, 0, [13]) by decide +kernel) (by decide),
  fun _ _ _ _ => WP_s (show ct 166 7 = some (.aload_n 0, 0, []) by decide +kernel) rfl,
  fun _ _ _ _ => WP_s (show ct 166 8 = some (.iconst 1, 0, []) by decide +kernel) rfl,
  fun _ _ _ _ _ ht => WC_1 (show ct 166 9 = some (.invokevirtual 162, 3, [157, 2, 1, 13, 0, 1495, 1497, 62]) by decide +kernel) (Nat.le_of_ble_eq_true rfl) (Nat.le_of_ble_eq_true rfl) rfl rfl ht,
  fun _ _ _ _ hz => WR_z (show ct 166 12 = some (.ireturn, 2, [1]) by decide +kernel) hz,
  fun _ _ _ _ _ ht => WC_1 (show ct 166 14 = some (.invokevirtual 197, 3, [161, 1, 1, 13, 0, 1503, 1505, 64]) by decide +kernel) (Nat.le_of_ble_eq_true rfl) (Nat.le_of_ble_eq_true rfl) rfl rfl ht,
  fun _ _ _ _ _ _ => WZ_eq (show ct 166 17 = some (.ifCond .eq 56, 0, [73]) by decide +kernel) (by decide),
  fun _ _ _ _ _ => WP_s (show ct 166 20 = some (.aload_n 0, 0, []) by decide +kernel) rfl,
  fun _ _ _ _ _ => WP_s (show ct 166 21 = some (.iconst 1, 0, []) by decide +kernel) rfl,
  fun _ _ _ _ _ _ ht => WC_1 (show ct 166 22 = some (.invokevirtual 200, 3, [162, 2, 1, 13, 0, 1511, 1513, 65]) by decide +kernel) (Nat.le_of_ble_eq_true rfl) (Nat.le_of_ble_eq_true rfl) rfl rfl ht,
  fun _ _ _ _ _ _ => WP_s (show ct 166 25 = some (.istore_n 1, 0, []) by decide +kernel) rfl,
  fun _ _ _ _ _ => WP_s (show ct 166 26 = some (.iload_n 1, 0, []) by decide +kernel) rfl,
  fun _ _ _ _ _ _ => WZ_lt (show ct 166 27 = some (.ifCond .lt 17, 0, [44]) by decide +kernel) (by decide),
  fun _ _ _ _ _ => WP_s (show ct 166 30 = some (.aload_n 0, 0, []) by decide +kernel) rfl,
  fun _ _ _ _ _ _ ht => WH_gR (show ct 166 31 = some (.getfield 27, 1, [12, 9, 2, 1282]) by decide +kernel) ht,
  fun _ _ _ _ _ => WP_s (show ct 166 34 = some (.iconst 1, 0, []) by decide +kernel) rfl,
  fun _ _ _ _ _ _ _ ht hi => WH_iald (show ct 166 35 = some (.iaload, 1, []) by decide +kernel) ht hi,
  fun _ _ _ _ _ => WP_s (show ct 166 36 = some (.iload_n 1, 0, []) by decide +kernel) rfl,
  fun _ _ _ _ _ _ _ => WP_s (show ct 166 37 = some (.ishr, 0, []) by decide +kernel) rfl,
  fun _ _ _ _ _ => WP_s (show ct 166 38 = some (.iconst 1, 0, []) by decide +kernel) rfl,
  fun _ _ _ _ _ _ _ => WP_s (show ct 166 39 = some (.iand, 0, []) by decide +kernel) rfl,
  fun _ _ _ _ _ => WP_s (show ct 166 40 = some (.iconst 1, 0, []) by decide +kernel) rfl,
  fun _ _ _ _ _ _ _ => WI_ne (show ct 166 41 = some (.if_icmp .ne 9, 0, [50]) by decide +kernel) (by decide),
  fun _ _ _ _ _ => WP_s (show ct 166 44 = some (.aload_n 0, 0, []) by decide +kernel) rfl,
  fun _ _ _ _ _ => WP_s (show ct 166 45 = some (.iconst 3, 0, []) by decide +kernel) rfl,
  fun _ _ _ _ _ _ ht => WC_1 (show ct 166 46 = some (.invokevirtual 162, 3, [157, 2, 1, 13, 0, 1495, 1497, 62]) by decide +kernel) (Nat.le_of_ble_eq_true rfl) (Nat.le_of_ble_eq_true rfl) rfl rfl ht,
  fun _ _ _ _ _ hz => WR_z (show ct 166 49 = some (.ireturn, 2, [1]) by decide +kernel) hz,
  fun _ _ _ _ _ => WP_s (show ct 166 50 = some (.aload_n 0, 0, []) by decide +kernel) rfl,
  fun _ _ _ _ _ _ ht => WH_gR (show ct 166 51 = some (.getfield 27, 1, [12, 9, 2, 1282]) by decide +kernel) ht,
  fun _ _ _ _ _ => WP_s (show ct 166 54 = some (.iconst 1, 0, []) by decide +kernel) rfl,
  fun _ _ _ _ _ => WP_s (show ct 166 55 = some (.aload_n 0, 0, []) by decide +kernel) rfl,
  fun _ _ _ _ _ _ ht => WH_gR (show ct 166 56 = some (.getfield 27, 1, [12, 9, 2, 1282]) by decide +kernel) ht,
  fun _ _ _ _ _ => WP_s (show ct 166 59 = some (.iconst 1, 0, []) by decide +kernel) rfl,
  fun _ _ _ _ _ _ _ ht hi => WH_iald (show ct 166 60 = some (.iaload, 1, []) by decide +kernel) ht hi,
  fun _ _ _ _ _ => WP_s (show ct 166 61 = some (.iconst 1, 0, []) by decide +kernel) rfl,
  fun _ _ _ _ _ => WP_s (show ct 166 62 = some (.iload_n 1, 0, []) by decide +kernel) rfl,
  fun _ _ _ _ _ _ _ => WP_s (show ct 166 63 = some (.ishl, 0, []) by decide +kernel) rfl,
  fun _ _ _ _ _ _ _ => WP_s (show ct 166 64 = some (.ior, 0, []) by decide +kernel) rfl⟩
set_option maxRecDepth 10000 in
theorem w166_b : (∀ (x0 : Nat) (x1 : Int32) (y0 : Int32) (y1 : Int32) (y2 : Nat) (st : List Value) (h : AH) (Q : Option Value → AH → Prop) (ht : hT h y2 = 100) (hi : inb y1 (hL h y2) = true), WP 166 65 [.ref x0, .int x1] (.int y0 :: .int y1 :: .ref y2 :: st) h Q ↔ WP 166 66 [.ref x0, .int x1] (st) (sI h y2 y1.toNatClampNeg y0) Q) ∧
  (∀ (x0 : Nat) (x1 : Int32) (st : List Value) (h : AH) (Q : Option Value → AH → Prop), WP 166 66 [.ref x0, .int x1] (st) h Q ↔ WP 166 67 [.ref x0, .int x1] (.ref x0 :: st) h Q) ∧
  (∀ (x0 : Nat) (x1 : Int32) (y0 : Nat) (h : AH) (Q : Option Value → AH → Prop) (ht : hT h y0 = 13), WP 166 67 [.ref x0, .int x1] ([.ref y0]) h Q ↔ WPM 156 [.ref y0] h (fun r h' => WP 166 70 [.ref x0, .int x1] (r.toList ++ []) h' Q)) ∧
  (∀ (x0 : Nat) (x1 : Int32) (st : List Value) (h : AH) (Q : Option Value → AH → Prop), WP 166 70 [.ref x0, .int x1] (st) h Q ↔ WP 166 13 [.ref x0, .int x1] (st) h Q) ∧
  (∀ (x0 : Nat) (x1 : Value) (st : List Value) (h : AH) (Q : Option Value → AH → Prop), WP 166 73 [.ref x0, x1] (st) h Q ↔ WP 166 74 [.ref x0, x1] (.int (1) :: st) h Q) ∧
  (∀ (x0 : Nat) (x1 : Value) (y0 : Int32) (h : AH) (Q : Option Value → AH → Prop) (hz : y0 = 0 ∨ y0 = 1), WP 166 74 [.ref x0, x1] ([.int y0]) h Q ↔ Q (some (.int y0)) h) :=
  ⟨fun _ _ _ _ _ _ _ _ ht hi => WH_iast (show ct 166 65 = some (.iastore, 1, []) by decide +kernel) ht hi,
  fun _ _ _ _ _ => WP_s (show ct 166 66 = some (.aload_n 0, 0, []) by decide +kernel) rfl,
  fun _ _ _ _ _ ht => WC_1 (show ct 166 67 = some (.invokevirtual 165, 3, [156, 1, 1, 13, 0, 1470, 1472, 58]) by decide +kernel) (Nat.le_of_ble_eq_true rfl) (Nat.le_of_ble_eq_true rfl) rfl rfl ht,
  fun _ _ _ _ _ => WP_s (show ct 166 70 = some (.goto (-57), 0, [13]) by decide +kernel) rfl,
  fun _ _ _ _ _ => WP_s (show ct 166 73 = some (.iconst 1, 0, []) by decide +kernel) rfl,
  fun _ _ _ _ _ hz => WR_z (show ct 166 74 = some (.ireturn, 2, [1]) by decide +kernel) hz⟩
/-- all of 166 -/
def w166_n : Nat := 2
/-! 167: FewBowlsModel.net()I; loop heads [72] -/
theorem w167_72 : ∀ (x0 : Nat) (x1 : Int32) (st : List Value) (h : AH) (Q : Option Value → AH → Prop), WP 167 72 [.ref x0, .int x1] (st) h Q ↔ WP 167 73 [.ref x0, .int x1] (.int x1 :: st) h Q := fun _ _ _ _ _ => WP_s (show ct 167 72 = some (.iload_n 1, 0, []) by decide +kernel) rfl
set_option maxRecDepth 10000 in
theorem w167_a : (∀ (x0 : Nat) (st : List Value) (h : AH) (Q : Option Value → AH → Prop), WP 167 0 [.ref x0, .retAddr 0] (st) h Q ↔ WP 167 1 [.ref x0, .retAddr 0] (.ref x0 :: st) h Q) ∧
  (∀ (x0 : Nat) (st : List Value) (h : AH) (Q : Option Value → AH → Prop), WP 167 1 [.ref x0, .retAddr 0] (st) h Q ↔ WP 167 2 [.ref x0, .retAddr 0] (.int (0) :: st) h Q) ∧
  (∀ (x0 : Nat) (y0 : Int32) (y1 : Nat) (st : List Value) (h : AH) (Q : Option Value → AH → Prop) (ht : hT h y1 = 13), WP 167 2 [.ref x0, .retAddr 0] (.int y0 :: .ref y1 :: st) h Q ↔ WP 167 5 [.ref x0, .retAddr 0] (st) (sI h y1 0 y0) Q) ∧
  (∀ (x0 : Nat) (st : List Value) (h : AH) (Q : Option Value → AH → Prop), WP 167 5 [.ref x0, .retAddr 0] (st) h Q ↔ WP 167 6 [.ref x0, .retAddr 0] (.ref x0 :: st) h Q) ∧
  (∀ (x0 : Nat) (y0 : Nat) (h : AH) (Q : Option Value → AH → Prop) (ht : hT h y0 = 13), WP 167 6 [.ref x0, .retAddr 0] ([.ref y0]) h Q ↔ WPM 149 [.ref y0] h (fun r h' => WP 167 9 [.ref x0, .retAddr 0] (r.toList ++ []) h' Q)) ∧
  (∀ (x0 : Nat) (st : List Value) (h : AH) (Q : Option Value → AH → Prop), WP 167 9 [.ref x0, .retAddr 0] (st) h Q ↔ WP 167 10 [.ref x0, .retAddr 0] (.ref x0 :: st) h Q) ∧
  (∀ (x0 : Nat) (st : List Value) (h : AH) (Q : Option Value → AH → Prop), WP 167 10 [.ref x0, .retAddr 0] (st) h Q ↔ WP 167 11 [.ref x0, .retAddr 0] (.int (0) :: st) h Q) ∧
  (∀ (x0 : Nat) (y0 : Int32) (y1 : Nat) (st : List Value) (h : AH) (Q : Option Value → AH → Prop) (ht : hT h y1 = 13), WP 167 11 [.ref x0, .retAddr 0] (.int y0 :: .ref y1 :: st) h Q ↔ WP 167 14 [.ref x0, .retAddr 0] (st) (sI h y1 15 y0) Q) ∧
  (∀ (x0 : Nat) (st : List Value) (h : AH) (Q : Option Value → AH → Prop), WP 167 14 [.ref x0, .retAddr 0] (st) h Q ↔ WP 167 15 [.ref x0, .retAddr 0] (.ref x0 :: st) h Q) ∧
  (∀ (x0 : Nat) (y0 : Nat) (st : List Value) (h : AH) (Q : Option Value → AH → Prop) (ht : hT h y0 = 13), WP 167 15 [.ref x0, .retAddr 0] (.ref y0 :: st) h Q ↔ WP 167 18 [.ref x0, .retAddr 0] (.ref (hR h y0 8) :: st) h Q) ∧
  (∀ (x0 : Nat) (st : List Value) (h : AH) (Q : Option Value → AH → Prop), WP 167 18 [.ref x0, .retAddr 0] (st) h Q ↔ WP 167 19 [.ref x0, .retAddr 0] (.int (1) :: st) h Q) ∧
  (∀ (x0 : Nat) (st : List Value) (h : AH) (Q : Option Value → AH → Prop), WP 167 19 [.ref x0, .retAddr 0] (st) h Q ↔ WP 167 20 [.ref x0, .retAddr 0] (.int (0) :: st) h Q) ∧
  (∀ (x0 : Nat) (y0 : Int32) (y1 : Int32) (y2 : Nat) (st : List Value) (h : AH) (Q : Option Value → AH → Prop) (ht : hT h y2 = 100) (hi : inb y1 (hL h y2) = true), WP 167 20 [.ref x0, .retAddr 0] (.int y0 :: .int y1 :: .ref y2 :: st) h Q ↔ WP 167 21 [.ref x0, .retAddr 0] (st) (sI h y2 y1.toNatClampNeg y0) Q) ∧
  (∀ (x0 : Nat) (st : List Value) (h : AH) (Q : Option Value → AH → Prop), WP 167 21 [.ref x0, .retAddr 0] (st) h Q ↔ WP 167 22 [.ref x0, .retAddr 0] (.ref x0 :: st) h Q) ∧
  (∀ (x0 : Nat) (y0 : Nat) (st : List Value) (h : AH) (Q : Option Value → AH → Prop) (ht : hT h y0 = 13), WP 167 22 [.ref x0, .retAddr 0] (.ref y0 :: st) h Q ↔ WP 167 25 [.ref x0, .retAddr 0] (.ref (hR h y0 9) :: st) h Q) ∧
  (∀ (x0 : Nat) (st : List Value) (h : AH) (Q : Option Value → AH → Prop), WP 167 25 [.ref x0, .retAddr 0] (st) h Q ↔ WP 167 26 [.ref x0, .retAddr 0] (.int (1) :: st) h Q) ∧
  (∀ (x0 : Nat) (st : List Value) (h : AH) (Q : Option Value → AH → Prop), WP 167 26 [.ref x0, .retAddr 0] (st) h Q ↔ WP 167 27 [.ref x0, .retAddr 0] (.int (0) :: st) h Q) ∧
  (∀ (x0 : Nat) (y0 : Int32) (y1 : Int32) (y2 : Nat) (st : List Value) (h : AH) (Q : Option Value → AH → Prop) (ht : hT h y2 = 100) (hi : inb y1 (hL h y2) = true), WP 167 27 [.ref x0, .retAddr 0] (.int y0 :: .int y1 :: .ref y2 :: st) h Q ↔ WP 167 28 [.ref x0, .retAddr 0] (st) (sI h y2 y1.toNatClampNeg y0) Q) ∧
  (∀ (x0 : Nat) (st : List Value) (h : AH) (Q : Option Value → AH → Prop), WP 167 28 [.ref x0, .retAddr 0] (st) h Q ↔ WP 167 29 [.ref x0, .retAddr 0] (.ref x0 :: st) h Q) ∧
  (∀ (x0 : Nat) (y0 : Nat) (h : AH) (Q : Option Value → AH → Prop) (ht : hT h y0 = 13), WP 167 29 [.ref x0, .retAddr 0] ([.ref y0]) h Q ↔ WPM 156 [.ref y0] h (fun r h' => WP 167 32 [.ref x0, .retAddr 0] (r.toList ++ []) h' Q)) ∧
  (∀ (x0 : Nat) (st : List Value) (h : AH) (Q : Option Value → AH → Prop), WP 167 32 [.ref x0, .retAddr 0] (st) h Q ↔ WP 167 33 [.ref x0, .retAddr 0] (.ref x0 :: st) h Q) ∧
  (∀ (x0 : Nat) (y0 : Nat) (h : AH) (Q : Option Value → AH → Prop) (ht : hT h y0 = 13), WP 167 33 [.ref x0, .retAddr 0] ([.ref y0]) h Q ↔ WPM 163 [.ref y0] h (fun r h' => WP 167 36 [.ref x0, .retAddr 0] (r.toList ++ []) h' Q)) ∧
  (∀ (x0 : Nat) (y0 : Int32) (st : List Value) (h : AH) (Q : Option Value → AH → Prop), WP 167 36 [.ref x0, .retAddr 0] (.int y0 :: st) h Q ↔ ((¬ y0 = 0 → WP 167 46 [.ref x0, .retAddr 0] (st) h Q) ∧ (y0 = 0 → WP 167 39 [.ref x0, .retAddr 0] (st) h Q))) ∧
  (∀ (x0 : Nat) (st : List Value) (h : AH) (Q : Option Value → AH → Prop), WP 167 39 [.ref x0, .retAddr 0] (st) h Q ↔ WP 167 40 [.ref x0, .retAddr 0] (.int (-1) :: st) h Q) ∧
  (∀ (x0 : Nat) (st : List Value) (h : AH) (Q : Option Value → AH → Prop), WP 167 40 [.ref x0, .retAddr 0] (st) h Q ↔ WP 167 41 [.ref x0, .retAddr 0] (.ref x0 :: st) h Q) ∧
  (∀ (x0 : Nat) (y0 : Nat) (st : List Value) (h : AH) (Q : Option Value → AH → Prop) (ht : hT h y0 = 13), WP 167 41 [.ref x0, .retAddr 0] (.ref y0 :: st) h Q ↔ WP 167 44 [.ref x0, .retAddr 0] (.int (hI h y0 16) :: st) h Q) ∧
  (∀ (x0 : Nat) (y0 : Int32) (y1 : Int32) (st : List Value) (h : AH) (Q : Option Value → AH → Prop), WP 167 44 [.ref x0, .retAddr 0] (.int y0 :: .int y1 :: st) h Q ↔ WP 167 45 [.ref x0, .retAddr 0] (.int (y1 - y0) :: st) h Q) ∧
  (∀ (x0 : Nat) (y0 : Int32) (h : AH) (Q : Option Value → AH → Prop), WP 167 45 [.ref x0, .retAddr 0] ([.int y0]) h Q ↔ Q (some (.int y0)) h) ∧
  (∀ (x0 : Nat) (st : List Value) (h : AH) (Q : Option Value → AH → Prop), WP 167 46 [.ref x0, .retAddr 0] (st) h Q ↔ WP 167 47 [.ref x0, .retAddr 0] (.ref x0 :: st) h Q) ∧
  (∀ (x0 : Nat) (y0 : Nat) (st : List Value) (h : AH) (Q : Option Value → AH → Prop) (ht : hT h y0 = 13), WP 167 47 [.ref x0, .retAddr 0] (.ref y0 :: st) h Q ↔ WP 167 50 [.ref x0, .retAddr 0] (.ref (hR h y0 8) :: st) h Q) ∧
  (∀ (x0 : Nat) (st : List Value) (h : AH) (Q : Option Value → AH → Prop), WP 167 50 [.ref x0, .retAddr 0] (st) h Q ↔ WP 167 51 [.ref x0, .retAddr 0] (.int (0) :: st) h Q) ∧
  (∀ (x0 : Nat) (st : List Value) (h : AH) (Q : Option Value → AH → Prop), WP 167 51 [.ref x0, .retAddr 0] (st) h Q ↔ WP 167 52 [.ref x0, .retAddr 0] (.ref x0 :: st) h Q) ∧
  (∀ (x0 : Nat) (y0 : Nat) (st : List Value) (h : AH) (Q : Option Value → AH → Prop) (ht : hT h y0 = 13), WP 167 52 [.ref x0, .retAddr 0] (.ref y0 :: st) h Q ↔ WP 167 55 [.ref x0, .retAddr 0] (.ref (hR h y0 8) :: st) h Q) ∧
  (∀ (x0 : Nat) (st : List Value) (h : AH) (Q : Option Value → AH → Prop), WP 167 55 [.ref x0, .retAddr 0] (st) h Q ↔ WP 167 56 [.ref x0, .retAddr 0] (.int (1) :: st) h Q) ∧
  (∀ (x0 : Nat) (y0 : Int32) (y1 : Nat) (st : List Value) (h : AH) (Q : Option Value → AH → Prop) (ht : hT h y1 = 100 ∨ hT h y1 = 110) (hi : inb y0 (hL h y1) = true), WP 167 56 [.ref x0, .retAddr 0] (.int y0 :: .ref y1 :: st) h Q ↔ WP 167 57 [.ref x0, .retAddr 0] (.int (hI h y1 y0.toNatClampNeg) :: st) h Q) ∧
  (∀ (x0 : Nat) (y0 : Int32) (y1 : Int32) (y2 : Nat) (st : List Value) (h : AH) (Q : Option Value → AH → Prop) (ht : hT h y2 = 100) (hi : inb y1 (hL h y2) = true), WP 167 57 [.ref x0, .retAddr 0] (.int y0 :: .int y1 :: .ref y2 :: st) h Q ↔ WP 167 58 [.ref x0, .retAddr 0] (st) (sI h y2 y1.toNatClampNeg y0) Q) ∧
  (∀ (x0 : Nat) (st : List Value) (h : AH) (Q : Option Value → AH → Prop), WP 167 58 [.ref x0, .retAddr 0] (st) h Q ↔ WP 167 59 [.ref x0, .retAddr 0] (.ref x0 :: st) h Q) ∧
  (∀ (x0 : Nat) (y0 : Nat) (st : List Value) (h : AH) (Q : Option Value → AH → Prop) (ht : hT h y0 = 13), WP 167 59 [.ref x0, .retAddr 0] (.ref y0 :: st) h Q ↔ WP 167 62 [.ref x0, .retAddr 0] (.ref (hR h y0 9) :: st) h Q) ∧
  (∀ (x0 : Nat) (st : List Value) (h : AH) (Q : Option Value → AH → Prop), WP 167 62 [.ref x0, .retAddr 0] (st) h Q ↔ WP 167 63 [.ref x0, .retAddr 0] (.int (0) :: st) h Q) ∧
  (∀ (x0 : Nat) (st : List Value) (h : AH) (Q : Option Value → AH → Prop), WP 167 63 [.ref x0, .retAddr 0] (st) h Q ↔ WP 167 64 [.ref x0, .retAddr 0] (.ref x0 :: st) h Q) :=
  ⟨fun _ _ _ _ => WP_s (show ct 167 0 = some (.aload_n 0, 0, []) by decide +kernel) rfl,
  fun _ _ _ _ => WP_s (show ct 167 1 = some (.iconst 0, 0, []) by decide +kernel) rfl,
  fun _ _ _ _ _ _ ht => WH_pI (show ct 167 2 = some (.putfield 109, 1, [12, 0, 0, 0, 1273]) by decide +kernel) ht,
  fun _ _ _ _ => WP_s (show ct 167 5 = some (.aload_n 0, 0, []) by decide +kernel) rfl,
  fun _ _ _ _ ht => WC_1 (show ct 167 6 = some (.invokevirtual 207, 3, [149, 1, 1, 13, 0, 1466, 1468, 57]) by decide +kernel) (Nat.le_of_ble_eq_true rfl) (Nat.le_of_ble_eq_true rfl) rfl rfl ht,
  fun _ _ _ _ => WP_s (show ct 167 9 = some (.aload_n 0, 0, []) by decide +kernel) rfl,
  fun _ _ _ _ => WP_s (show ct 167 10 = some (.iconst 0, 0, []) by decide +kernel) rfl,
  fun _ _ _ _ _ _ ht => WH_pI (show ct 167 11 = some (.putfield 153, 1, [12, 15, 0, 0, 1288]) by decide +kernel) ht,
  fun _ _ _ _ => WP_s (show ct 167 14 = some (.aload_n 0, 0, []) by decide +kernel) rfl,
  fun _ _ _ _ _ ht => WH_gR (show ct 167 15 = some (.getfield 24, 1, [12, 8, 2, 1281]) by decide +kernel) ht,
  fun _ _ _ _ => WP_s (show ct 167 18 = some (.iconst 1, 0, []) by decide +kernel) rfl,
  fun _ _ _ _ => WP_s (show ct 167 19 = some (.iconst 0, 0, []) by decide +kernel) rfl,
  fun _ _ _ _ _ _ _ ht hi => WH_iast (show ct 167 20 = some (.iastore, 1, []) by decide +kernel) ht hi,
  fun _ _ _ _ => WP_s (show ct 167 21 = some (.aload_n 0, 0, []) by decide +kernel) rfl,
  fun _ _ _ _ _ ht => WH_gR (show ct 167 22 = some (.getfield 27, 1, [12, 9, 2, 1282]) by decide +kernel) ht,
  fun _ _ _ _ => WP_s (show ct 167 25 = some (.iconst 1, 0, []) by decide +kernel) rfl,
  fun _ _ _ _ => WP_s (show ct 167 26 = some (.iconst 0, 0, []) by decide +kernel) rfl,
  fun _ _ _ _ _ _ _ ht hi => WH_iast (show ct 167 27 = some (.iastore, 1, []) by decide +kernel) ht hi,
  fun _ _ _ _ => WP_s (show ct 167 28 = some (.aload_n 0, 0, []) by decide +kernel) rfl,
  fun _ _ _ _ ht => WC_1 (show ct 167 29 = some (.invokevirtual 165, 3, [156, 1, 1, 13, 0, 1470, 1472, 58]) by decide +kernel) (Nat.le_of_ble_eq_true rfl) (Nat.le_of_ble_eq_true rfl) rfl rfl ht,
  fun _ _ _ _ => WP_s (show ct 167 32 = some (.aload_n 0, 0, []) by decide +kernel) rfl,
  fun _ _ _ _ ht => WC_1 (show ct 167 33 = some (.invokevirtual 210, 3, [163, 1, 1, 13, 0, 1484, 1486, 60]) by decide +kernel) (Nat.le_of_ble_eq_true rfl) (Nat.le_of_ble_eq_true rfl) rfl rfl ht,
  fun _ _ _ _ _ => WZ_ne (show ct 167 36 = some (.ifCond .ne 10, 0, [46]) by decide +kernel) (by decide),
  fun _ _ _ _ => WP_s (show ct 167 39 = some (.iconst (-1), 0, []) by decide +kernel) rfl,
  fun _ _ _ _ => WP_s (show ct 167 40 = some (.aload_n 0, 0, []) by decide +kernel) rfl,
  fun _ _ _ _ _ ht => WH_gI (show ct 167 41 = some (.getfield 156, 1, [12, 16, 0, 1289]) by decide +kernel) (by decide) ht,
  fun _ _ _ _ _ _ => WP_s (show ct 167 44 = some (.isub, 0, []) by decide +kernel) rfl,
  fun _ _ _ _ => WR_i (show ct 167 45 = some (.ireturn, 2, [0]) by decide +kernel),
  fun _ _ _ _ => WP_s (show ct 167 46 = some (.aload_n 0, 0, []) by decide +kernel) rfl,
  fun _ _ _ _ _ ht => WH_gR (show ct 167 47 = some (.getfield 24, 1, [12, 8, 2, 1281]) by decide +kernel) ht,
  fun _ _ _ _ => WP_s (show ct 167 50 = some (.iconst 0, 0, []) by decide +kernel) rfl,
  fun _ _ _ _ => WP_s (show ct 167 51 = some (.aload_n 0, 0, []) by decide +kernel) rfl,
  fun _ _ _ _ _ ht => WH_gR (show ct 167 52 = some (.getfield 24, 1, [12, 8, 2, 1281]) by decide +kernel) ht,
  fun _ _ _ _ => WP_s (show ct 167 55 = some (.iconst 1, 0, []) by decide +kernel) rfl,
  fun _ _ _ _ _ _ ht hi => WH_iald (show ct 167 56 = some (.iaload, 1, []) by decide +kernel) ht hi,
  fun _ _ _ _ _ _ _ ht hi => WH_iast (show ct 167 57 = some (.iastore, 1, []) by decide +kernel) ht hi,
  fun _ _ _ _ => WP_s (show ct 167 58 = some (.aload_n 0, 0, []) by decide +kernel) rfl,
  fun _ _ _ _ _ ht => WH_gR (show ct 167 59 = some (.getfield 27, 1, [12, 9, 2, 1282]) by decide +kernel) ht,
  fun _ _ _ _ => WP_s (show ct 167 62 = some (.iconst 0, 0, []) by decide +kernel) rfl,
  fun _ _ _ _ => WP_s (show ct 167 63 = some (.aload_n 0, 0, []) by decide +kernel) rfl⟩
set_option maxRecDepth 10000 in
theorem w167_b : (∀ (x0 : Nat) (y0 : Nat) (st : List Value) (h : AH) (Q : Option Value → AH → Prop) (ht : hT h y0 = 13), WP 167 64 [.ref x0, .retAddr 0] (.ref y0 :: st) h Q ↔ WP 167 67 [.ref x0, .retAddr 0] (.ref (hR h y0 9) :: st) h Q) ∧
  (∀ (x0 : Nat) (st : List Value) (h : AH) (Q : Option Value → AH → Prop), WP 167 67 [.ref x0, .retAddr 0] (st) h Q ↔ WP 167 68 [.ref x0, .retAddr 0] (.int (1) :: st) h Q) ∧
  (∀ (x0 : Nat) (y0 : Int32) (y1 : Nat) (st : List Value) (h : AH) (Q : Option Value → AH → Prop) (ht : hT h y1 = 100 ∨ hT h y1 = 110) (hi : inb y0 (hL h y1) = true), WP 167 68 [.ref x0, .retAddr 0] (.int y0 :: .ref y1 :: st) h Q ↔ WP 167 69 [.ref x0, .retAddr 0] (.int (hI h y1 y0.toNatClampNeg) :: st) h Q) ∧
  (∀ (x0 : Nat) (y0 : Int32) (y1 : Int32) (y2 : Nat) (st : List Value) (h : AH) (Q : Option Value → AH → Prop) (ht : hT h y2 = 100) (hi : inb y1 (hL h y2) = true), WP 167 69 [.ref x0, .retAddr 0] (.int y0 :: .int y1 :: .ref y2 :: st) h Q ↔ WP 167 70 [.ref x0, .retAddr 0] (st) (sI h y2 y1.toNatClampNeg y0) Q) ∧
  (∀ (x0 : Nat) (st : List Value) (h : AH) (Q : Option Value → AH → Prop), WP 167 70 [.ref x0, .retAddr 0] (st) h Q ↔ WP 167 71 [.ref x0, .retAddr 0] (.int (0) :: st) h Q) ∧
  (∀ (x0 : Nat) (y0 : Int32) (st : List Value) (h : AH) (Q : Option Value → AH → Prop), WP 167 71 [.ref x0, .retAddr 0] (.int y0 :: st) h Q ↔ WP 167 72 [.ref x0, .int y0] (st) h Q) ∧
  (∀ (x0 : Nat) (x1 : Int32) (st : List Value) (h : AH) (Q : Option Value → AH → Prop), WP 167 73 [.ref x0, .int x1] (st) h Q ↔ WP 167 74 [.ref x0, .int x1] (.ref x0 :: st) h Q) ∧
  (∀ (x0 : Nat) (x1 : Int32) (y0 : Nat) (st : List Value) (h : AH) (Q : Option Value → AH → Prop) (ht : hT h y0 = 13), WP 167 74 [.ref x0, .int x1] (.ref y0 :: st) h Q ↔ WP 167 77 [.ref x0, .int x1] (.ref (hR h y0 8) :: st) h Q) ∧
  (∀ (x0 : Nat) (x1 : Int32) (st : List Value) (h : AH) (Q : Option Value → AH → Prop), WP 167 77 [.ref x0, .int x1] (st) h Q ↔ WP 167 78 [.ref x0, .int x1] (.int (0) :: st) h Q) ∧
  (∀ (x0 : Nat) (x1 : Int32) (y0 : Int32) (y1 : Nat) (st : List Value) (h : AH) (Q : Option Value → AH → Prop) (ht : hT h y1 = 100 ∨ hT h y1 = 110) (hi : inb y0 (hL h y1) = true), WP 167 78 [.ref x0, .int x1] (.int y0 :: .ref y1 :: st) h Q ↔ WP 167 79 [.ref x0, .int x1] (.int (hI h y1 y0.toNatClampNeg) :: st) h Q) ∧
  (∀ (x0 : Nat) (x1 : Int32) (y0 : Int32) (y1 : Int32) (st : List Value) (h : AH) (Q : Option Value → AH → Prop), WP 167 79 [.ref x0, .int x1] (.int y0 :: .int y1 :: st) h Q ↔ ((y0 ≤ y1 → WP 167 148 [.ref x0, .int x1] (st) h Q) ∧ (¬ y0 ≤ y1 → WP 167 82 [.ref x0, .int x1] (st) h Q))) ∧
  (∀ (x0 : Nat) (x1 : Int32) (st : List Value) (h : AH) (Q : Option Value → AH → Prop), WP 167 82 [.ref x0, .int x1] (st) h Q ↔ WP 167 83 [.ref x0, .int x1] (.ref x0 :: st) h Q) ∧
  (∀ (x0 : Nat) (x1 : Int32) (y0 : Nat) (st : List Value) (h : AH) (Q : Option Value → AH → Prop) (ht : hT h y0 = 13), WP 167 83 [.ref x0, .int x1] (.ref y0 :: st) h Q ↔ WP 167 86 [.ref x0, .int x1] (.ref (hR h y0 5) :: st) h Q) ∧
  (∀ (x0 : Nat) (x1 : Int32) (st : List Value) (h : AH) (Q : Option Value → AH → Prop), WP 167 86 [.ref x0, .int x1] (st) h Q ↔ WP 167 87 [.ref x0, .int x1] (.int x1 :: st) h Q) ∧
  (∀ (x0 : Nat) (x1 : Int32) (st : List Value) (h : AH) (Q : Option Value → AH → Prop), WP 167 87 [.ref x0, .int x1] (st) h Q ↔ WP 167 88 [.ref x0, .int x1] (.ref x0 :: st) h Q) ∧
  (∀ (x0 : Nat) (x1 : Int32) (y0 : Nat) (st : List Value) (h : AH) (Q : Option Value → AH → Prop) (ht : hT h y0 = 13), WP 167 88 [.ref x0, .int x1] (.ref y0 :: st) h Q ↔ WP 167 91 [.ref x0, .int x1] (.ref (hR h y0 5) :: st) h Q) ∧
  (∀ (x0 : Nat) (x1 : Int32) (st : List Value) (h : AH) (Q : Option Value → AH → Prop), WP 167 91 [.ref x0, .int x1] (st) h Q ↔ WP 167 93 [.ref x0, .int x1] (.int (14) :: st) h Q) ∧
  (∀ (x0 : Nat) (x1 : Int32) (st : List Value) (h : AH) (Q : Option Value → AH → Prop), WP 167 93 [.ref x0, .int x1] (st) h Q ↔ WP 167 94 [.ref x0, .int x1] (.int x1 :: st) h Q) ∧
  (∀ (x0 : Nat) (x1 : Int32) (y0 : Int32) (y1 : Int32) (st : List Value) (h : AH) (Q : Option Value → AH → Prop), WP 167 94 [.ref x0, .int x1] (.int y0 :: .int y1 :: st) h Q ↔ WP 167 95 [.ref x0, .int x1] (.int (y1 + y0) :: st) h Q) ∧
  (∀ (x0 : Nat) (x1 : Int32) (y0 : Int32) (y1 : Nat) (st : List Value) (h : AH) (Q : Option Value → AH → Prop) (ht : hT h y1 = 103) (hi : inb y0 (hL h y1) = true), WP 167 95 [.ref x0, .int x1] (.int y0 :: .ref y1 :: st) h Q ↔ WP 167 96 [.ref x0, .int x1] (.long (hJ h y1 y0.toNatClampNeg) :: st) h Q) ∧
  (∀ (x0 : Nat) (x1 : Int32) (y0 : Int64) (y1 : Int32) (y2 : Nat) (st : List Value) (h : AH) (Q : Option Value → AH → Prop) (ht : hT h y2 = 103) (hi : inb y1 (hL h y2) = true), WP 167 96 [.ref x0, .int x1] (.long y0 :: .int y1 :: .ref y2 :: st) h Q ↔ WP 167 97 [.ref x0, .int x1] (st) (sJ h y2 y1.toNatClampNeg y0) Q) ∧
  (∀ (x0 : Nat) (x1 : Int32) (st : List Value) (h : AH) (Q : Option Value → AH → Prop), WP 167 97 [.ref x0, .int x1] (st) h Q ↔ WP 167 98 [.ref x0, .int x1] (.ref x0 :: st) h Q) ∧
  (∀ (x0 : Nat) (x1 : Int32) (y0 : Nat) (st : List Value) (h : AH) (Q : Option Value → AH → Prop) (ht : hT h y0 = 13), WP 167 98 [.ref x0, .int x1] (.ref y0 :: st) h Q ↔ WP 167 101 [.ref x0, .int x1] (.ref (hR h y0 6) :: st) h Q) ∧
  (∀ (x0 : Nat) (x1 : Int32) (st : List Value) (h : AH) (Q : Option Value → AH → Prop), WP 167 101 [.ref x0, .int x1] (st) h Q ↔ WP 167 102 [.ref x0, .int x1] (.int x1 :: st) h Q) ∧
  (∀ (x0 : Nat) (x1 : Int32) (st : List Value) (h : AH) (Q : Option Value → AH → Prop), WP 167 102 [.ref x0, .int x1] (st) h Q ↔ WP 167 103 [.ref x0, .int x1] (.ref x0 :: st) h Q) ∧
  (∀ (x0 : Nat) (x1 : Int32) (y0 : Nat) (st : List Value) (h : AH) (Q : Option Value → AH → Prop) (ht : hT h y0 = 13), WP 167 103 [.ref x0, .int x1] (.ref y0 :: st) h Q ↔ WP 167 106 [.ref x0, .int x1] (.ref (hR h y0 6) :: st) h Q) ∧
  (∀ (x0 : Nat) (x1 : Int32) (st : List Value) (h : AH) (Q : Option Value → AH → Prop), WP 167 106 [.ref x0, .int x1] (st) h Q ↔ WP 167 108 [.ref x0, .int x1] (.int (14) :: st) h Q) ∧
  (∀ (x0 : Nat) (x1 : Int32) (st : List Value) (h : AH) (Q : Option Value → AH → Prop), WP 167 108 [.ref x0, .int x1] (st) h Q ↔ WP 167 109 [.ref x0, .int x1] (.int x1 :: st) h Q) ∧
  (∀ (x0 : Nat) (x1 : Int32) (y0 : Int32) (y1 : Int32) (st : List Value) (h : AH) (Q : Option Value → AH → Prop), WP 167 109 [.ref x0, .int x1] (.int y0 :: .int y1 :: st) h Q ↔ WP 167 110 [.ref x0, .int x1] (.int (y1 + y0) :: st) h Q) ∧
  (∀ (x0 : Nat) (x1 : Int32) (y0 : Int32) (y1 : Nat) (st : List Value) (h : AH) (Q : Option Value → AH → Prop) (ht : hT h y1 = 100 ∨ hT h y1 = 110) (hi : inb y0 (hL h y1) = true), WP 167 110 [.ref x0, .int x1] (.int y0 :: .ref y1 :: st) h Q ↔ WP 167 111 [.ref x0, .int x1] (.int (hI h y1 y0.toNatClampNeg) :: st) h Q) ∧
  (∀ (x0 : Nat) (x1 : Int32) (y0 : Int32) (y1 : Int32) (y2 : Nat) (st : List Value) (h : AH) (Q : Option Value → AH → Prop) (ht : hT h y2 = 100) (hi : inb y1 (hL h y2) = true), WP 167 111 [.ref x0, .int x1] (.int y0 :: .int y1 :: .ref y2 :: st) h Q ↔ WP 167 112 [.ref x0, .int x1] (st) (sI h y2 y1.toNatClampNeg y0) Q) ∧
  (∀ (x0 : Nat) (x1 : Int32) (st : List Value) (h : AH) (Q : Option Value → AH → Prop), WP 167 112 [.ref x0, .int x1] (st) h Q ↔ WP 167 113 [.ref x0, .int x1] (.ref x0 :: st) h Q) ∧
  (∀ (x0 : Nat) (x1 : Int32) (y0 : Nat) (st : List Value) (h : AH) (Q : Option Value → AH → Prop) (ht : hT h y0 = 13), WP 167 113 [.ref x0, .int x1] (.ref y0 :: st) h Q ↔ WP 167 116 [.ref x0, .int x1] (.ref (hR h y0 7) :: st) h Q) ∧
  (∀ (x0 : Nat) (x1 : Int32) (st : List Value) (h : AH) (Q : Option Value → AH → Prop), WP 167 116 [.ref x0, .int x1] (st) h Q ↔ WP 167 117 [.ref x0, .int x1] (.int x1 :: st) h Q) ∧
  (∀ (x0 : Nat) (x1 : Int32) (st : List Value) (h : AH) (Q : Option Value → AH → Prop), WP 167 117 [.ref x0, .int x1] (st) h Q ↔ WP 167 118 [.ref x0, .int x1] (.ref x0 :: st) h Q) ∧
  (∀ (x0 : Nat) (x1 : Int32) (y0 : Nat) (st : List Value) (h : AH) (Q : Option Value → AH → Prop) (ht : hT h y0 = 13), WP 167 118 [.ref x0, .int x1] (.ref y0 :: st) h Q ↔ WP 167 121 [.ref x0, .int x1] (.ref (hR h y0 7) :: st) h Q) ∧
  (∀ (x0 : Nat) (x1 : Int32) (st : List Value) (h : AH) (Q : Option Value → AH → Prop), WP 167 121 [.ref x0, .int x1] (st) h Q ↔ WP 167 123 [.ref x0, .int x1] (.int (14) :: st) h Q) ∧
  (∀ (x0 : Nat) (x1 : Int32) (st : List Value) (h : AH) (Q : Option Value → AH → Prop), WP 167 123 [.ref x0, .int x1] (st) h Q ↔ WP 167 124 [.ref x0, .int x1] (.int x1 :: st) h Q) ∧
  (∀ (x0 : Nat) (x1 : Int32) (y0 : Int32) (y1 : Int32) (st : List Value) (h : AH) (Q : Option Value → AH → Prop), WP 167 124 [.ref x0, .int x1] (.int y0 :: .int y1 :: st) h Q ↔ WP 167 125 [.ref x0, .int x1] (.int (y1 + y0) :: st) h Q) ∧
  (∀ (x0 : Nat) (x1 : Int32) (y0 : Int32) (y1 : Nat) (st : List Value) (h : AH) (Q : Option Value → AH → Prop) (ht : hT h y1 = 100 ∨ hT h y1 = 110) (hi : inb y0 (hL h y1) = true), WP 167 125 [.ref x0, .int x1] (.int y0 :: .ref y1 :: st) h Q ↔ WP 167 126 [.ref x0, .int x1] (.int (hI h y1 y0.toNatClampNeg) :: st) h Q) :=
  ⟨fun _ _ _ _ _ ht => WH_gR (show ct 167 64 = some (.getfield 27, 1, [12, 9, 2, 1282]) by decide +kernel) ht,
  fun _ _ _ _ => WP_s (show ct 167 67 = some (.iconst 1, 0, []) by decide +kernel) rfl,
  fun _ _ _ _ _ _ ht hi => WH_iald (show ct 167 68 = some (.iaload, 1, []) by decide +kernel) ht hi,
  fun _ _ _ _ _ _ _ ht hi => WH_iast (show ct 167 69 = some (.iastore, 1, []) by decide +kernel) ht hi,
  fun _ _ _ _ => WP_s (show ct 167 70 = some (.iconst 0, 0, []) by decide +kernel) rfl,
  fun _ _ _ _ _ => WP_s (show ct 167 71 = some (.istore_n 1, 0, []) by decide +kernel) rfl,
  fun _ _ _ _ _ => WP_s (show ct 167 73 = some (.aload_n 0, 0, []) by decide +kernel) rfl,
  fun _ _ _ _ _ _ ht => WH_gR (show ct 167 74 = some (.getfield 24, 1, [12, 8, 2, 1281]) by decide +kernel) ht,
  fun _ _ _ _ _ => WP_s (show ct 167 77 = some (.iconst 0, 0, []) by decide +kernel) rfl,
  fun _ _ _ _ _ _ _ ht hi => WH_iald (show ct 167 78 = some (.iaload, 1, []) by decide +kernel) ht hi,
  fun _ _ _ _ _ _ _ => WI_ge (show ct 167 79 = some (.if_icmp .ge 69, 0, [148]) by decide +kernel) (by decide),
  fun _ _ _ _ _ => WP_s (show ct 167 82 = some (.aload_n 0, 0, []) by decide +kernel) rfl,
  fun _ _ _ _ _ _ ht => WH_gR (show ct 167 83 = some (.getfield 13, 1, [12, 5, 2, 1278]) by decide +kernel) ht,
  fun _ _ _ _ _ => WP_s (show ct 167 86 = some (.iload_n 1, 0, []) by decide +kernel) rfl,
  fun _ _ _ _ _ => WP_s (show ct 167 87 = some (.aload_n 0, 0, []) by decide +kernel) rfl,
  fun _ _ _ _ _ _ ht => WH_gR (show ct 167 88 = some (.getfield 13, 1, [12, 5, 2, 1278]) by decide +kernel) ht,
  fun _ _ _ _ _ => WP_s (show ct 167 91 = some (.bipush 14, 0, []) by decide +kernel) rfl,
  fun _ _ _ _ _ => WP_s (show ct 167 93 = some (.iload_n 1, 0, []) by decide +kernel) rfl,
  fun _ _ _ _ _ _ _ => WP_s (show ct 167 94 = some (.iadd, 0, []) by decide +kernel) rfl,
  fun _ _ _ _ _ _ _ ht hi => WH_lald (show ct 167 95 = some (.laload, 1, []) by decide +kernel) ht hi,
  fun _ _ _ _ _ _ _ _ ht hi => WH_last (show ct 167 96 = some (.lastore, 1, []) by decide +kernel) ht hi,
  fun _ _ _ _ _ => WP_s (show ct 167 97 = some (.aload_n 0, 0, []) by decide +kernel) rfl,
  fun _ _ _ _ _ _ ht => WH_gR (show ct 167 98 = some (.getfield 17, 1, [12, 6, 2, 1279]) by decide +kernel) ht,
  fun _ _ _ _ _ => WP_s (show ct 167 101 = some (.iload_n 1, 0, []) by decide +kernel) rfl,
  fun _ _ _ _ _ => WP_s (show ct 167 102 = some (.aload_n 0, 0, []) by decide +kernel) rfl,
  fun _ _ _ _ _ _ ht => WH_gR (show ct 167 103 = some (.getfield 17, 1, [12, 6, 2, 1279]) by decide +kernel) ht,
  fun _ _ _ _ _ => WP_s (show ct 167 106 = some (.bipush 14, 0, []) by decide +kernel) rfl,
  fun _ _ _ _ _ => WP_s (show ct 167 108 = some (.iload_n 1, 0, []) by decide +kernel) rfl,
  fun _ _ _ _ _ _ _ => WP_s (show ct 167 109 = some (.iadd, 0, []) by decide +kernel) rfl,
  fun _ _ _ _ _ _ _ ht hi => WH_iald (show ct 167 110 = some (.iaload, 1, []) by decide +kernel) ht hi,
  fun _ _ _ _ _ _ _ _ ht hi => WH_iast (show ct 167 111 = some (.iastore, 1, []) by decide +kernel) ht hi,
  fun _ _ _ _ _ => WP_s (show ct 167 112 = some (.aload_n 0, 0, []) by decide +kernel) rfl,
  fun _ _ _ _ _ _ ht => WH_gR (show ct 167 113 = some (.getfield 21, 1, [12, 7, 2, 1280]) by decide +kernel) ht,
  fun _ _ _ _ _ => WP_s (show ct 167 116 = some (.iload_n 1, 0, []) by decide +kernel) rfl,
  fun _ _ _ _ _ => WP_s (show ct 167 117 = some (.aload_n 0, 0, []) by decide +kernel) rfl,
  fun _ _ _ _ _ _ ht => WH_gR (show ct 167 118 = some (.getfield 21, 1, [12, 7, 2, 1280]) by decide +kernel) ht,
  fun _ _ _ _ _ => WP_s (show ct 167 121 = some (.bipush 14, 0, []) by decide +kernel) rfl,
  fun _ _ _ _ _ => WP_s (show ct 167 123 = some (.iload_n 1, 0, []) by decide +kernel) rfl,
  fun _ _ _ _ _ _ _ => WP_s (show ct 167 124 = some (.iadd, 0, []) by decide +kernel) rfl,
  fun _ _ _ _ _ _ _ ht hi => WH_iald (show ct 167 125 = some (.iaload, 1, []) by decide +kernel) ht hi⟩
set_option maxRecDepth 10000 in
theorem w167_c : (∀ (x0 : Nat) (x1 : Int32) (y0 : Int32) (y1 : Int32) (y2 : Nat) (st : List Value) (h : AH) (Q : Option Value → AH → Prop) (ht : hT h y2 = 100) (hi : inb y1 (hL h y2) = true), WP 167 126 [.ref x0, .int x1] (.int y0 :: .int y1 :: .ref y2 :: st) h Q ↔ WP 167 127 [.ref x0, .int x1] (st) (sI h y2 y1.toNatClampNeg y0) Q) ∧
  (∀ (x0 : Nat) (x1 : Int32) (st : List Value) (h : AH) (Q : Option Value → AH → Prop), WP 167 127 [.ref x0, .int x1] (st) h Q ↔ WP 167 128 [.ref x0, .int x1] (.ref x0 :: st) h Q) ∧
  (∀ (x0 : Nat) (x1 : Int32) (y0 : Nat) (st : List Value) (h : AH) (Q : Option Value → AH → Prop) (ht : hT h y0 = 13), WP 167 128 [.ref x0, .int x1] (.ref y0 :: st) h Q ↔ WP 167 131 [.ref x0, .int x1] (.ref (hR h y0 10) :: st) h Q) ∧
  (∀ (x0 : Nat) (x1 : Int32) (st : List Value) (h : AH) (Q : Option Value → AH → Prop), WP 167 131 [.ref x0, .int x1] (st) h Q ↔ WP 167 132 [.ref x0, .int x1] (.int x1 :: st) h Q) ∧
  (∀ (x0 : Nat) (x1 : Int32) (st : List Value) (h : AH) (Q : Option Value → AH → Prop), WP 167 132 [.ref x0, .int x1] (st) h Q ↔ WP 167 133 [.ref x0, .int x1] (.ref x0 :: st) h Q) ∧
  (∀ (x0 : Nat) (x1 : Int32) (y0 : Nat) (st : List Value) (h : AH) (Q : Option Value → AH → Prop) (ht : hT h y0 = 13), WP 167 133 [.ref x0, .int x1] (.ref y0 :: st) h Q ↔ WP 167 136 [.ref x0, .int x1] (.ref (hR h y0 10) :: st) h Q) ∧
  (∀ (x0 : Nat) (x1 : Int32) (st : List Value) (h : AH) (Q : Option Value → AH → Prop), WP 167 136 [.ref x0, .int x1] (st) h Q ↔ WP 167 138 [.ref x0, .int x1] (.int (14) :: st) h Q) ∧
  (∀ (x0 : Nat) (x1 : Int32) (st : List Value) (h : AH) (Q : Option Value → AH → Prop), WP 167 138 [.ref x0, .int x1] (st) h Q ↔ WP 167 139 [.ref x0, .int x1] (.int x1 :: st) h Q) ∧
  (∀ (x0 : Nat) (x1 : Int32) (y0 : Int32) (y1 : Int32) (st : List Value) (h : AH) (Q : Option Value → AH → Prop), WP 167 139 [.ref x0, .int x1] (.int y0 :: .int y1 :: st) h Q ↔ WP 167 140 [.ref x0, .int x1] (.int (y1 + y0) :: st) h Q) ∧
  (∀ (x0 : Nat) (x1 : Int32) (y0 : Int32) (y1 : Nat) (st : List Value) (h : AH) (Q : Option Value → AH → Prop) (ht : hT h y1 = 101 ∨ hT h y1 = 102) (hi : inb y0 (hL h y1) = true), WP 167 140 [.ref x0, .int x1] (.int y0 :: .ref y1 :: st) h Q ↔ WP 167 141 [.ref x0, .int x1] (.int (hI h y1 y0.toNatClampNeg) :: st) h Q) ∧
  (∀ (x0 : Nat) (x1 : Int32) (y0 : Int32) (y1 : Int32) (y2 : Nat) (st : List Value) (h : AH) (Q : Option Value → AH → Prop) (ht : hT h y2 = 101) (hi : inb y1 (hL h y2) = true), WP 167 141 [.ref x0, .int x1] (.int y0 :: .int y1 :: .ref y2 :: st) h Q ↔ WP 167 142 [.ref x0, .int x1] (st) (sI h y2 y1.toNatClampNeg y0.toInt8.toInt32) Q) ∧
  (∀ (x0 : Nat) (x1 : Int32) (y0 : Int32) (y1 : Int32) (y2 : Nat) (st : List Value) (h : AH) (Q : Option Value → AH → Prop) (ht : hT h y2 = 102) (hi : inb y1 (hL h y2) = true), WP 167 141 [.ref x0, .int x1] (.int y0 :: .int y1 :: .ref y2 :: st) h Q ↔ WP 167 142 [.ref x0, .int x1] (st) (sI h y2 y1.toNatClampNeg (y0 &&& 1)) Q) ∧
  (∀ (x0 : Nat) (x1 : Int32) (st : List Value) (h : AH) (Q : Option Value → AH → Prop), WP 167 142 [.ref x0, .int x1] (st) h Q ↔ WP 167 145 [.ref x0, .int (x1 + (1))] (st) h Q) ∧
  (∀ (x0 : Nat) (x1 : Int32) (st : List Value) (h : AH) (Q : Option Value → AH → Prop), WP 167 145 [.ref x0, .int x1] (st) h Q ↔ WP 167 72 [.ref x0, .int x1] (st) h Q) ∧
  (∀ (x0 : Nat) (x1 : Int32) (st : List Value) (h : AH) (Q : Option Value → AH → Prop), WP 167 148 [.ref x0, .int x1] (st) h Q ↔ WP 167 149 [.ref x0, .int x1] (.ref x0 :: st) h Q) ∧
  (∀ (x0 : Nat) (x1 : Int32) (y0 : Nat) (st : List Value) (h : AH) (Q : Option Value → AH → Prop) (ht : hT h y0 = 13), WP 167 149 [.ref x0, .int x1] (.ref y0 :: st) h Q ↔ WP 167 152 [.ref x0, .int x1] (.ref (hR h y0 8) :: st) h Q) ∧
  (∀ (x0 : Nat) (x1 : Int32) (st : List Value) (h : AH) (Q : Option Value → AH → Prop), WP 167 152 [.ref x0, .int x1] (st) h Q ↔ WP 167 153 [.ref x0, .int x1] (.int (0) :: st) h Q) ∧
  (∀ (x0 : Nat) (x1 : Int32) (y0 : Int32) (y1 : Nat) (st : List Value) (h : AH) (Q : Option Value → AH → Prop) (ht : hT h y1 = 100 ∨ hT h y1 = 110) (hi : inb y0 (hL h y1) = true), WP 167 153 [.ref x0, .int x1] (.int y0 :: .ref y1 :: st) h Q ↔ WP 167 154 [.ref x0, .int x1] (.int (hI h y1 y0.toNatClampNeg) :: st) h Q) ∧
  (∀ (x0 : Nat) (x1 : Int32) (y0 : Int32) (h : AH) (Q : Option Value → AH → Prop), WP 167 154 [.ref x0, .int x1] ([.int y0]) h Q ↔ Q (some (.int y0)) h) :=
  ⟨fun _ _ _ _ _ _ _ _ ht hi => WH_iast (show ct 167 126 = some (.iastore, 1, []) by decide +kernel) ht hi,
  fun _ _ _ _ _ => WP_s (show ct 167 127 = some (.aload_n 0, 0, []) by decide +kernel) rfl,
  fun _ _ _ _ _ _ ht => WH_gR (show ct 167 128 = some (.getfield 30, 1, [12, 10, 2, 1283]) by decide +kernel) ht,
  fun _ _ _ _ _ => WP_s (show ct 167 131 = some (.iload_n 1, 0, []) by decide +kernel) rfl,
  fun _ _ _ _ _ => WP_s (show ct 167 132 = some (.aload_n 0, 0, []) by decide +kernel) rfl,
  fun _ _ _ _ _ _ ht => WH_gR (show ct 167 133 = some (.getfield 30, 1, [12, 10, 2, 1283]) by decide +kernel) ht,
  fun _ _ _ _ _ => WP_s (show ct 167 136 = some (.bipush 14, 0, []) by decide +kernel) rfl,
  fun _ _ _ _ _ => WP_s (show ct 167 138 = some (.iload_n 1, 0, []) by decide +kernel) rfl,
  fun _ _ _ _ _ _ _ => WP_s (show ct 167 139 = some (.iadd, 0, []) by decide +kernel) rfl,
  fun _ _ _ _ _ _ _ ht hi => WH_bald (show ct 167 140 = some (.baload, 1, []) by decide +kernel) ht hi,
  fun _ _ _ _ _ _ _ _ ht hi => WH_bast (show ct 167 141 = some (.bastore, 1, []) by decide +kernel) ht hi,
  fun _ _ _ _ _ _ _ _ ht hi => WH_zast (show ct 167 141 = some (.bastore, 1, []) by decide +kernel) ht hi,
  fun _ _ _ _ _ => WP_s (show ct 167 142 = some (.iinc 1 1, 0, []) by decide +kernel) rfl,
  fun _ _ _ _ _ => WP_s (show ct 167 145 = some (.goto (-73), 0, [72]) by decide +kernel) rfl,
  fun _ _ _ _ _ => WP_s (show ct 167 148 = some (.aload_n 0, 0, []) by decide +kernel) rfl,
  fun _ _ _ _ _ _ ht => WH_gR (show ct 167 149 = some (.getfield 24, 1, [12, 8, 2, 1281]) by decide +kernel) ht,
  fun _ _ _ _ _ => WP_s (show ct 167 152 = some (.iconst 0, 0, []) by decide +kernel) rfl,
  fun _ _ _ _ _ _ _ ht hi => WH_iald (show ct 167 153 = some (.iaload, 1, []) by decide +kernel) ht hi,
  fun _ _ _ _ _ => WR_i (show ct 167 154 = some (.ireturn, 2, [0]) by decide +kernel)⟩
/-- all of 167 -/
def w167_n : Nat := 3
/-! 168: FewBowlsModel.fault()I; loop heads [] -/
set_option maxRecDepth 10000 in
theorem w168 : (∀ (x0 : Nat) (st : List Value) (h : AH) (Q : Option Value → AH → Prop), WP 168 0 [.ref x0] (st) h Q ↔ WP 168 1 [.ref x0] (.ref x0 :: st) h Q) ∧
  (∀ (x0 : Nat) (st : List Value) (h : AH) (Q : Option Value → AH → Prop), WP 168 1 [.ref x0] (st) h Q ↔ WP 168 2 [.ref x0] (.int (0) :: st) h Q) ∧
  (∀ (x0 : Nat) (y0 : Int32) (y1 : Nat) (st : List Value) (h : AH) (Q : Option Value → AH → Prop) (ht : hT h y1 = 13), WP 168 2 [.ref x0] (.int y0 :: .ref y1 :: st) h Q ↔ WP 168 5 [.ref x0] (st) (sI h y1 0 y0) Q) ∧
  (∀ (x0 : Nat) (st : List Value) (h : AH) (Q : Option Value → AH → Prop), WP 168 5 [.ref x0] (st) h Q ↔ WP 168 6 [.ref x0] (.ref x0 :: st) h Q) ∧
  (∀ (x0 : Nat) (y0 : Nat) (st : List Value) (h : AH) (Q : Option Value → AH → Prop) (ht : hT h y0 = 13), WP 168 6 [.ref x0] (.ref y0 :: st) h Q ↔ WP 168 9 [.ref x0] (.int (hI h y0 15) :: st) h Q) ∧
  (∀ (x0 : Nat) (y0 : Int32) (h : AH) (Q : Option Value → AH → Prop), WP 168 9 [.ref x0] ([.int y0]) h Q ↔ Q (some (.int y0)) h) :=
  ⟨fun _ _ _ _ => WP_s (show ct 168 0 = some (.aload_n 0, 0, []) by decide +kernel) rfl,
  fun _ _ _ _ => WP_s (show ct 168 1 = some (.iconst 0, 0, []) by decide +kernel) rfl,
  fun _ _ _ _ _ _ ht => WH_pI (show ct 168 2 = some (.putfield 109, 1, [12, 0, 0, 0, 1273]) by decide +kernel) ht,
  fun _ _ _ _ => WP_s (show ct 168 5 = some (.aload_n 0, 0, []) by decide +kernel) rfl,
  fun _ _ _ _ _ ht => WH_gI (show ct 168 6 = some (.getfield 153, 1, [12, 15, 0, 1288]) by decide +kernel) (by decide) ht,
  fun _ _ _ _ => WR_i (show ct 168 9 = some (.ireturn, 2, [0]) by decide +kernel)⟩
/-! 169: FewBowlsModel.isThing(I)Z; loop heads [] -/
set_option maxRecDepth 10000 in
theorem w169 : (∀ (x0 : Nat) (x1 : Int32) (st : List Value) (h : AH) (Q : Option Value → AH → Prop), WP 169 0 [.ref x0, .int x1] (st) h Q ↔ WP 169 1 [.ref x0, .int x1] (.int x1 :: st) h Q) ∧
  (∀ (x0 : Nat) (x1 : Int32) (st : List Value) (h : AH) (Q : Option Value → AH → Prop), WP 169 1 [.ref x0, .int x1] (st) h Q ↔ WP 169 2 [.ref x0, .int x1] (.int (0) :: st) h Q) ∧
  (∀ (x0 : Nat) (x1 : Int32) (st : List Value) (h : AH) (Q : Option Value → AH → Prop), WP 169 2 [.ref x0, .int x1] (st) h Q ↔ WP 169 3 [.ref x0, .int x1] (.ref x0 :: st) h Q) ∧
  (∀ (x0 : Nat) (x1 : Int32) (y0 : Nat) (st : List Value) (h : AH) (Q : Option Value → AH → Prop) (ht : hT h y0 = 13), WP 169 3 [.ref x0, .int x1] (.ref y0 :: st) h Q ↔ WP 169 6 [.ref x0, .int x1] (.ref (hR h y0 8) :: st) h Q) ∧
  (∀ (x0 : Nat) (x1 : Int32) (st : List Value) (h : AH) (Q : Option Value → AH → Prop), WP 169 6 [.ref x0, .int x1] (st) h Q ↔ WP 169 7 [.ref x0, .int x1] (.int (0) :: st) h Q) ∧
  (∀ (x0 : Nat) (x1 : Int32) (y0 : Int32) (y1 : Nat) (st : List Value) (h : AH) (Q : Option Value → AH → Prop) (ht : hT h y1 = 100 ∨ hT h y1 = 110) (hi : inb y0 (hL h y1) = true), WP 169 7 [.ref x0, .int x1] (.int y0 :: .ref y1 :: st) h Q ↔ WP 169 8 [.ref x0, .int x1] (.int (hI h y1 y0.toNatClampNeg) :: st) h Q) ∧
  (∀ (x0 : Nat) (x1 : Int32) (st : List Value) (h : AH) (Q : Option Value → AH → Prop), WP 169 8 [.ref x0, .int x1] (st) h Q ↔ WP 169 9 [.ref x0, .int x1] (.int (1) :: st) h Q) ∧
  (∀ (x0 : Nat) (x1 : Int32) (y0 : Int32) (y1 : Int32) (st : List Value) (h : AH) (Q : Option Value → AH → Prop), WP 169 9 [.ref x0, .int x1] (.int y0 :: .int y1 :: st) h Q ↔ WP 169 10 [.ref x0, .int x1] (.int (y1 - y0) :: st) h Q) ∧
  (∀ (x0 : Nat) (x1 : Int32) (y2 : Int32) (y1 : Int32) (y0 : Int32) (h : AH) (Q : Option Value → AH → Prop), WP 169 10 [.ref x0, .int x1] ([.int y0, .int y1, .int y2]) h Q ↔ WPM 150 [.int y2, .int y1, .int y0] h (fun r h' => WP 169 13 [.ref x0, .int x1] (r.toList ++ []) h' Q)) ∧
  (∀ (x0 : Nat) (x1 : Int32) (y0 : Int32) (h : AH) (Q : Option Value → AH → Prop) (hz : y0 = 0 ∨ y0 = 1), WP 169 13 [.ref x0, .int x1] ([.int y0]) h Q ↔ Q (some (.int y0)) h) :=
  ⟨fun _ _ _ _ _ => WP_s (show ct 169 0 = some (.iload_n 1, 0, []) by decide +kernel) rfl,
  fun _ _ _ _ _ => WP_s (show ct 169 1 = some (.iconst 0, 0, []) by decide +kernel) rfl,
  fun _ _ _ _ _ => WP_s (show ct 169 2 = some (.aload_n 0, 0, []) by decide +kernel) rfl,
  fun _ _ _ _ _ _ ht => WH_gR (show ct 169 3 = some (.getfield 24, 1, [12, 8, 2, 1281]) by decide +kernel) ht,
  fun _ _ _ _ _ => WP_s (show ct 169 6 = some (.iconst 0, 0, []) by decide +kernel) rfl,
  fun _ _ _ _ _ _ _ ht hi => WH_iald (show ct 169 7 = some (.iaload, 1, []) by decide +kernel) ht hi,
  fun _ _ _ _ _ => WP_s (show ct 169 8 = some (.iconst 1, 0, []) by decide +kernel) rfl,
  fun _ _ _ _ _ _ _ => WP_s (show ct 169 9 = some (.isub, 0, []) by decide +kernel) rfl,
  fun _ _ _ _ _ _ _ => WC_0 (show ct 169 10 = some (.invokestatic 213, 3, [150, 3, 0, 0, 0, 1543, 1544, 0]) by decide +kernel) (Nat.le_of_ble_eq_true rfl) (Nat.le_of_ble_eq_true rfl) rfl rfl,
  fun _ _ _ _ _ hz => WR_z (show ct 169 13 = some (.ireturn, 2, [1]) by decide +kernel) hz⟩
/-! 170: FewBowlsModel.below(I)I; loop heads [6] -/
theorem w170_6 : ∀ (x0 : Nat) (x1 : Int32) (x2 : Int32) (x3 : Int32) (st : List Value) (h : AH) (Q : Option Value → AH → Prop), WP 170 6 [.ref x0, .int x1, .int x2, .int x3] (st) h Q ↔ WP 170 7 [.ref x0, .int x1, .int x2, .int x3] (.int x3 :: st) h Q := fun _ _ _ _ _ _ _ => WP_s (show ct 170 6 = some (.iload_n 3, 0, []) by decide +kernel) rfl
set_option maxRecDepth 10000 in
theorem w170 : (∀ (x0 : Nat) (x1 : Int32) (st : List Value) (h : AH) (Q : Option Value → AH → Prop), WP 170 0 [.ref x0, .int x1, .retAddr 0, .retAddr 0] (st) h Q ↔ WP 170 1 [.ref x0, .int x1, .retAddr 0, .retAddr 0] (.int (1) :: st) h Q) ∧
  (∀ (x0 : Nat) (x1 : Int32) (st : List Value) (h : AH) (Q : Option Value → AH → Prop), WP 170 1 [.ref x0, .int x1, .retAddr 0, .retAddr 0] (st) h Q ↔ WP 170 2 [.ref x0, .int x1, .retAddr 0, .retAddr 0] (.int x1 :: st) h Q) ∧
  (∀ (x0 : Nat) (x1 : Int32) (y0 : Int32) (y1 : Int32) (st : List Value) (h : AH) (Q : Option Value → AH → Prop), WP 170 2 [.ref x0, .int x1, .retAddr 0, .retAddr 0] (.int y0 :: .int y1 :: st) h Q ↔ WP 170 3 [.ref x0, .int x1, .retAddr 0, .retAddr 0] (.int (y1 <<< (y0 &&& 31)) :: st) h Q) ∧
  (∀ (x0 : Nat) (x1 : Int32) (y0 : Int32) (st : List Value) (h : AH) (Q : Option Value → AH → Prop), WP 170 3 [.ref x0, .int x1, .retAddr 0, .retAddr 0] (.int y0 :: st) h Q ↔ WP 170 4 [.ref x0, .int x1, .int y0, .retAddr 0] (st) h Q) ∧
  (∀ (x0 : Nat) (x1 : Int32) (x2 : Int32) (st : List Value) (h : AH) (Q : Option Value → AH → Prop), WP 170 4 [.ref x0, .int x1, .int x2, .retAddr 0] (st) h Q ↔ WP 170 5 [.ref x0, .int x1, .int x2, .retAddr 0] (.int x1 :: st) h Q) ∧
  (∀ (x0 : Nat) (x1 : Int32) (x2 : Int32) (y0 : Int32) (st : List Value) (h : AH) (Q : Option Value → AH → Prop), WP 170 5 [.ref x0, .int x1, .int x2, .retAddr 0] (.int y0 :: st) h Q ↔ WP 170 6 [.ref x0, .int x1, .int x2, .int y0] (st) h Q) ∧
  (∀ (x0 : Nat) (x1 : Int32) (x2 : Int32) (x3 : Int32) (y0 : Int32) (st : List Value) (h : AH) (Q : Option Value → AH → Prop), WP 170 7 [.ref x0, .int x1, .int x2, .int x3] (.int y0 :: st) h Q ↔ ((y0 < 0 → WP 170 38 [.ref x0, .int x1, .int x2, .int x3] (st) h Q) ∧ (¬ y0 < 0 → WP 170 10 [.ref x0, .int x1, .int x2, .int x3] (st) h Q))) ∧
  (∀ (x0 : Nat) (x1 : Int32) (x2 : Int32) (x3 : Int32) (st : List Value) (h : AH) (Q : Option Value → AH → Prop), WP 170 10 [.ref x0, .int x1, .int x2, .int x3] (st) h Q ↔ WP 170 11 [.ref x0, .int x1, .int x2, .int x3] (.int x2 :: st) h Q) ∧
  (∀ (x0 : Nat) (x1 : Int32) (x2 : Int32) (x3 : Int32) (st : List Value) (h : AH) (Q : Option Value → AH → Prop), WP 170 11 [.ref x0, .int x1, .int x2, .int x3] (st) h Q ↔ WP 170 12 [.ref x0, .int x1, .int x2, .int x3] (.int x2 :: st) h Q) ∧
  (∀ (x0 : Nat) (x1 : Int32) (x2 : Int32) (x3 : Int32) (st : List Value) (h : AH) (Q : Option Value → AH → Prop), WP 170 12 [.ref x0, .int x1, .int x2, .int x3] (st) h Q ↔ WP 170 13 [.ref x0, .int x1, .int x2, .int x3] (.int x3 :: st) h Q) ∧
  (∀ (x0 : Nat) (x1 : Int32) (x2 : Int32) (x3 : Int32) (y0 : Int32) (y1 : Int32) (st : List Value) (h : AH) (Q : Option Value → AH → Prop), WP 170 13 [.ref x0, .int x1, .int x2, .int x3] (.int y0 :: .int y1 :: st) h Q ↔ WP 170 14 [.ref x0, .int x1, .int x2, .int x3] (.int (y1 >>> (y0 &&& 31)) :: st) h Q) ∧
  (∀ (x0 : Nat) (x1 : Int32) (x2 : Int32) (x3 : Int32) (st : List Value) (h : AH) (Q : Option Value → AH → Prop), WP 170 14 [.ref x0, .int x1, .int x2, .int x3] (st) h Q ↔ WP 170 15 [.ref x0, .int x1, .int x2, .int x3] (.int (1) :: st) h Q) ∧
  (∀ (x0 : Nat) (x1 : Int32) (x2 : Int32) (x3 : Int32) (y0 : Int32) (y1 : Int32) (st : List Value) (h : AH) (Q : Option Value → AH → Prop), WP 170 15 [.ref x0, .int x1, .int x2, .int x3] (.int y0 :: .int y1 :: st) h Q ↔ WP 170 16 [.ref x0, .int x1, .int x2, .int x3] (.int (y1 &&& y0) :: st) h Q) ∧
  (∀ (x0 : Nat) (x1 : Int32) (x2 : Int32) (x3 : Int32) (st : List Value) (h : AH) (Q : Option Value → AH → Prop), WP 170 16 [.ref x0, .int x1, .int x2, .int x3] (st) h Q ↔ WP 170 17 [.ref x0, .int x1, .int x2, .int x3] (.int (1) :: st) h Q) ∧
  (∀ (x0 : Nat) (x1 : Int32) (x2 : Int32) (x3 : Int32) (y0 : Int32) (y1 : Int32) (st : List Value) (h : AH) (Q : Option Value → AH → Prop), WP 170 17 [.ref x0, .int x1, .int x2, .int x3] (.int y0 :: .int y1 :: st) h Q ↔ ((¬ y1 = y0 → WP 170 29 [.ref x0, .int x1, .int x2, .int x3] (st) h Q) ∧ (y1 = y0 → WP 170 20 [.ref x0, .int x1, .int x2, .int x3] (st) h Q))) ∧
  (∀ (x0 : Nat) (x1 : Int32) (x2 : Int32) (x3 : Int32) (st : List Value) (h : AH) (Q : Option Value → AH → Prop), WP 170 20 [.ref x0, .int x1, .int x2, .int x3] (st) h Q ↔ WP 170 21 [.ref x0, .int x1, .int x2, .int x3] (.ref x0 :: st) h Q) ∧
  (∀ (x0 : Nat) (x1 : Int32) (x2 : Int32) (x3 : Int32) (y0 : Nat) (st : List Value) (h : AH) (Q : Option Value → AH → Prop) (ht : hT h y0 = 13), WP 170 21 [.ref x0, .int x1, .int x2, .int x3] (.ref y0 :: st) h Q ↔ WP 170 24 [.ref x0, .int x1, .int x2, .int x3] (.ref (hR h y0 6) :: st) h Q) ∧
  (∀ (x0 : Nat) (x1 : Int32) (x2 : Int32) (x3 : Int32) (st : List Value) (h : AH) (Q : Option Value → AH → Prop), WP 170 24 [.ref x0, .int x1, .int x2, .int x3] (st) h Q ↔ WP 170 25 [.ref x0, .int x1, .int x2, .int x3] (.int x3 :: st) h Q) ∧
  (∀ (x0 : Nat) (x1 : Int32) (x2 : Int32) (x3 : Int32) (y0 : Int32) (y1 : Nat) (st : List Value) (h : AH) (Q : Option Value → AH → Prop) (ht : hT h y1 = 100 ∨ hT h y1 = 110) (hi : inb y0 (hL h y1) = true), WP 170 25 [.ref x0, .int x1, .int x2, .int x3] (.int y0 :: .ref y1 :: st) h Q ↔ WP 170 26 [.ref x0, .int x1, .int x2, .int x3] (.int (hI h y1 y0.toNatClampNeg) :: st) h Q) ∧
  (∀ (x0 : Nat) (x1 : Int32) (x2 : Int32) (x3 : Int32) (st : List Value) (h : AH) (Q : Option Value → AH → Prop), WP 170 26 [.ref x0, .int x1, .int x2, .int x3] (st) h Q ↔ WP 170 30 [.ref x0, .int x1, .int x2, .int x3] (st) h Q) ∧
  (∀ (x0 : Nat) (x1 : Int32) (x2 : Int32) (x3 : Int32) (st : List Value) (h : AH) (Q : Option Value → AH → Prop), WP 170 29 [.ref x0, .int x1, .int x2, .int x3] (st) h Q ↔ WP 170 30 [.ref x0, .int x1, .int x2, .int x3] (.int (0) :: st) h Q) ∧
  (∀ (x0 : Nat) (x1 : Int32) (x2 : Int32) (x3 : Int32) (y0 : Int32) (y1 : Int32) (st : List Value) (h : AH) (Q : Option Value → AH → Prop), WP 170 30 [.ref x0, .int x1, .int x2, .int x3] (.int y0 :: .int y1 :: st) h Q ↔ WP 170 31 [.ref x0, .int x1, .int x2, .int x3] (.int (y1 ||| y0) :: st) h Q) ∧
  (∀ (x0 : Nat) (x1 : Int32) (x2 : Int32) (x3 : Int32) (y0 : Int32) (st : List Value) (h : AH) (Q : Option Value → AH → Prop), WP 170 31 [.ref x0, .int x1, .int x2, .int x3] (.int y0 :: st) h Q ↔ WP 170 32 [.ref x0, .int x1, .int y0, .int x3] (st) h Q) ∧
  (∀ (x0 : Nat) (x1 : Int32) (x2 : Int32) (x3 : Int32) (st : List Value) (h : AH) (Q : Option Value → AH → Prop), WP 170 32 [.ref x0, .int x1, .int x2, .int x3] (st) h Q ↔ WP 170 35 [.ref x0, .int x1, .int x2, .int (x3 + (-1))] (st) h Q) ∧
  (∀ (x0 : Nat) (x1 : Int32) (x2 : Int32) (x3 : Int32) (st : List Value) (h : AH) (Q : Option Value → AH → Prop), WP 170 35 [.ref x0, .int x1, .int x2, .int x3] (st) h Q ↔ WP 170 6 [.ref x0, .int x1, .int x2, .int x3] (st) h Q) ∧
  (∀ (x0 : Nat) (x1 : Int32) (x2 : Int32) (x3 : Int32) (st : List Value) (h : AH) (Q : Option Value → AH → Prop), WP 170 38 [.ref x0, .int x1, .int x2, .int x3] (st) h Q ↔ WP 170 39 [.ref x0, .int x1, .int x2, .int x3] (.int x2 :: st) h Q) ∧
  (∀ (x0 : Nat) (x1 : Int32) (x2 : Int32) (x3 : Int32) (y0 : Int32) (h : AH) (Q : Option Value → AH → Prop), WP 170 39 [.ref x0, .int x1, .int x2, .int x3] ([.int y0]) h Q ↔ Q (some (.int y0)) h) :=
  ⟨fun _ _ _ _ _ => WP_s (show ct 170 0 = some (.iconst 1, 0, []) by decide +kernel) rfl,
  fun _ _ _ _ _ => WP_s (show ct 170 1 = some (.iload_n 1, 0, []) by decide +kernel) rfl,
  fun _ _ _ _ _ _ _ => WP_s (show ct 170 2 = some (.ishl, 0, []) by decide +kernel) rfl,
  fun _ _ _ _ _ _ => WP_s (show ct 170 3 = some (.istore_n 2, 0, []) by decide +kernel) rfl,
  fun _ _ _ _ _ _ => WP_s (show ct 170 4 = some (.iload_n 1, 0, []) by decide +kernel) rfl,
  fun _ _ _ _ _ _ _ => WP_s (show ct 170 5 = some (.istore_n 3, 0, []) by decide +kernel) rfl,
  fun _ _ _ _ _ _ _ _ => WZ_lt (show ct 170 7 = some (.ifCond .lt 31, 0, [38]) by decide +kernel) (by decide),
  fun _ _ _ _ _ _ _ => WP_s (show ct 170 10 = some (.iload_n 2, 0, []) by decide +kernel) rfl,
  fun _ _ _ _ _ _ _ => WP_s (show ct 170 11 = some (.iload_n 2, 0, []) by decide +kernel) rfl,
  fun _ _ _ _ _ _ _ => WP_s (show ct 170 12 = some (.iload_n 3, 0, []) by decide +kernel) rfl,
  fun _ _ _ _ _ _ _ _ _ => WP_s (show ct 170 13 = some (.ishr, 0, []) by decide +kernel) rfl,
  fun _ _ _ _ _ _ _ => WP_s (show ct 170 14 = some (.iconst 1, 0, []) by decide +kernel) rfl,
  fun _ _ _ _ _ _ _ _ _ => WP_s (show ct 170 15 = some (.iand, 0, []) by decide +kernel) rfl,
  fun _ _ _ _ _ _ _ => WP_s (show ct 170 16 = some (.iconst 1, 0, []) by decide +kernel) rfl,
  fun _ _ _ _ _ _ _ _ _ => WI_ne (show ct 170 17 = some (.if_icmp .ne 12, 0, [29]) by decide +kernel) (by decide),
  fun _ _ _ _ _ _ _ => WP_s (show ct 170 20 = some (.aload_n 0, 0, []) by decide +kernel) rfl,
  fun _ _ _ _ _ _ _ _ ht => WH_gR (show ct 170 21 = some (.getfield 17, 1, [12, 6, 2, 1279]) by decide +kernel) ht,
  fun _ _ _ _ _ _ _ => WP_s (show ct 170 24 = some (.iload_n 3, 0, []) by decide +kernel) rfl,
  fun _ _ _ _ _ _ _ _ _ ht hi => WH_iald (show ct 170 25 = some (.iaload, 1, []) by decide +kernel) ht hi,
  fun _ _ _ _ _ _ _ => WP_s (show ct 170 26 = some (.goto 4, 0, [30]) by decide +kernel) rfl,
  fun _ _ _ _ _ _ _ => WP_s (show ct 170 29 = some (.iconst 0, 0, []) by decide +kernel) rfl,
  fun _ _ _ _ _ _ _ _ _ => WP_s (show ct 170 30 = some (.ior, 0, []) by decide +kernel) rfl,
  fun _ _ _ _ _ _ _ _ => WP_s (show ct 170 31 = some (.istore_n 2, 0, []) by decide +kernel) rfl,
  fun _ _ _ _ _ _ _ => WP_s (show ct 170 32 = some (.iinc 3 (-1), 0, []) by decide +kernel) rfl,
  fun _ _ _ _ _ _ _ => WP_s (show ct 170 35 = some (.goto (-29), 0, [6]) by decide +kernel) rfl,
  fun _ _ _ _ _ _ _ => WP_s (show ct 170 38 = some (.iload_n 2, 0, []) by decide +kernel) rfl,
  fun _ _ _ _ _ _ _ => WR_i (show ct 170 39 = some (.ireturn, 2, [0]) by decide +kernel)⟩
/-! 171: FewBowlsModel.needed()I; loop heads [16] -/
theorem w171_16 : ∀ (x0 : Nat) (x1 : Int32) (x2 : Int32) (st : List Value) (h : AH) (Q : Option Value → AH → Prop), WP 171 16 [.ref x0, .int x1, .int x2] (st) h Q ↔ WP 171 17 [.ref x0, .int x1, .int x2] (.int x2 :: st) h Q := fun _ _ _ _ _ _ => WP_s (show ct 171 16 = some (.iload_n 2, 0, []) by decide +kernel) rfl
set_option maxRecDepth 10000 in
theorem w171 : (∀ (x0 : Nat) (st : List Value) (h : AH) (Q : Option Value → AH → Prop), WP 171 0 [.ref x0, .retAddr 0, .retAddr 0] (st) h Q ↔ WP 171 1 [.ref x0, .retAddr 0, .retAddr 0] (.ref x0 :: st) h Q) ∧
  (∀ (x0 : Nat) (y0 : Nat) (st : List Value) (h : AH) (Q : Option Value → AH → Prop) (ht : hT h y0 = 13), WP 171 1 [.ref x0, .retAddr 0, .retAddr 0] (.ref y0 :: st) h Q ↔ WP 171 4 [.ref x0, .retAddr 0, .retAddr 0] (.ref (hR h y0 9) :: st) h Q) ∧
  (∀ (x0 : Nat) (st : List Value) (h : AH) (Q : Option Value → AH → Prop), WP 171 4 [.ref x0, .retAddr 0, .retAddr 0] (st) h Q ↔ WP 171 5 [.ref x0, .retAddr 0, .retAddr 0] (.int (0) :: st) h Q) ∧
  (∀ (x0 : Nat) (y0 : Int32) (y1 : Nat) (st : List Value) (h : AH) (Q : Option Value → AH → Prop) (ht : hT h y1 = 100 ∨ hT h y1 = 110) (hi : inb y0 (hL h y1) = true), WP 171 5 [.ref x0, .retAddr 0, .retAddr 0] (.int y0 :: .ref y1 :: st) h Q ↔ WP 171 6 [.ref x0, .retAddr 0, .retAddr 0] (.int (hI h y1 y0.toNatClampNeg) :: st) h Q) ∧
  (∀ (x0 : Nat) (y0 : Int32) (st : List Value) (h : AH) (Q : Option Value → AH → Prop), WP 171 6 [.ref x0, .retAddr 0, .retAddr 0] (.int y0 :: st) h Q ↔ WP 171 7 [.ref x0, .int y0, .retAddr 0] (st) h Q) ∧
  (∀ (x0 : Nat) (x1 : Int32) (st : List Value) (h : AH) (Q : Option Value → AH → Prop), WP 171 7 [.ref x0, .int x1, .retAddr 0] (st) h Q ↔ WP 171 8 [.ref x0, .int x1, .retAddr 0] (.ref x0 :: st) h Q) ∧
  (∀ (x0 : Nat) (x1 : Int32) (y0 : Nat) (st : List Value) (h : AH) (Q : Option Value → AH → Prop) (ht : hT h y0 = 13), WP 171 8 [.ref x0, .int x1, .retAddr 0] (.ref y0 :: st) h Q ↔ WP 171 11 [.ref x0, .int x1, .retAddr 0] (.ref (hR h y0 8) :: st) h Q) ∧
  (∀ (x0 : Nat) (x1 : Int32) (st : List Value) (h : AH) (Q : Option Value → AH → Prop), WP 171 11 [.ref x0, .int x1, .retAddr 0] (st) h Q ↔ WP 171 12 [.ref x0, .int x1, .retAddr 0] (.int (0) :: st) h Q) ∧
  (∀ (x0 : Nat) (x1 : Int32) (y0 : Int32) (y1 : Nat) (st : List Value) (h : AH) (Q : Option Value → AH → Prop) (ht : hT h y1 = 100 ∨ hT h y1 = 110) (hi : inb y0 (hL h y1) = true), WP 171 12 [.ref x0, .int x1, .retAddr 0] (.int y0 :: .ref y1 :: st) h Q ↔ WP 171 13 [.ref x0, .int x1, .retAddr 0] (.int (hI h y1 y0.toNatClampNeg) :: st) h Q) ∧
  (∀ (x0 : Nat) (x1 : Int32) (st : List Value) (h : AH) (Q : Option Value → AH → Prop), WP 171 13 [.ref x0, .int x1, .retAddr 0] (st) h Q ↔ WP 171 14 [.ref x0, .int x1, .retAddr 0] (.int (1) :: st) h Q) ∧
  (∀ (x0 : Nat) (x1 : Int32) (y0 : Int32) (y1 : Int32) (st : List Value) (h : AH) (Q : Option Value → AH → Prop), WP 171 14 [.ref x0, .int x1, .retAddr 0] (.int y0 :: .int y1 :: st) h Q ↔ WP 171 15 [.ref x0, .int x1, .retAddr 0] (.int (y1 - y0) :: st) h Q) ∧
  (∀ (x0 : Nat) (x1 : Int32) (y0 : Int32) (st : List Value) (h : AH) (Q : Option Value → AH → Prop), WP 171 15 [.ref x0, .int x1, .retAddr 0] (.int y0 :: st) h Q ↔ WP 171 16 [.ref x0, .int x1, .int y0] (st) h Q) ∧
  (∀ (x0 : Nat) (x1 : Int32) (x2 : Int32) (y0 : Int32) (st : List Value) (h : AH) (Q : Option Value → AH → Prop), WP 171 17 [.ref x0, .int x1, .int x2] (.int y0 :: st) h Q ↔ ((y0 < 0 → WP 171 48 [.ref x0, .int x1, .int x2] (st) h Q) ∧ (¬ y0 < 0 → WP 171 20 [.ref x0, .int x1, .int x2] (st) h Q))) ∧
  (∀ (x0 : Nat) (x1 : Int32) (x2 : Int32) (st : List Value) (h : AH) (Q : Option Value → AH → Prop), WP 171 20 [.ref x0, .int x1, .int x2] (st) h Q ↔ WP 171 21 [.ref x0, .int x1, .int x2] (.int x1 :: st) h Q) ∧
  (∀ (x0 : Nat) (x1 : Int32) (x2 : Int32) (st : List Value) (h : AH) (Q : Option Value → AH → Prop), WP 171 21 [.ref x0, .int x1, .int x2] (st) h Q ↔ WP 171 22 [.ref x0, .int x1, .int x2] (.int x1 :: st) h Q) ∧
  (∀ (x0 : Nat) (x1 : Int32) (x2 : Int32) (st : List Value) (h : AH) (Q : Option Value → AH → Prop), WP 171 22 [.ref x0, .int x1, .int x2] (st) h Q ↔ WP 171 23 [.ref x0, .int x1, .int x2] (.int x2 :: st) h Q) ∧
  (∀ (x0 : Nat) (x1 : Int32) (x2 : Int32) (y0 : Int32) (y1 : Int32) (st : List Value) (h : AH) (Q : Option Value → AH → Prop), WP 171 23 [.ref x0, .int x1, .int x2] (.int y0 :: .int y1 :: st) h Q ↔ WP 171 24 [.ref x0, .int x1, .int x2] (.int (y1 >>> (y0 &&& 31)) :: st) h Q) ∧
  (∀ (x0 : Nat) (x1 : Int32) (x2 : Int32) (st : List Value) (h : AH) (Q : Option Value → AH → Prop), WP 171 24 [.ref x0, .int x1, .int x2] (st) h Q ↔ WP 171 25 [.ref x0, .int x1, .int x2] (.int (1) :: st) h Q) ∧
  (∀ (x0 : Nat) (x1 : Int32) (x2 : Int32) (y0 : Int32) (y1 : Int32) (st : List Value) (h : AH) (Q : Option Value → AH → Prop), WP 171 25 [.ref x0, .int x1, .int x2] (.int y0 :: .int y1 :: st) h Q ↔ WP 171 26 [.ref x0, .int x1, .int x2] (.int (y1 &&& y0) :: st) h Q) ∧
  (∀ (x0 : Nat) (x1 : Int32) (x2 : Int32) (st : List Value) (h : AH) (Q : Option Value → AH → Prop), WP 171 26 [.ref x0, .int x1, .int x2] (st) h Q ↔ WP 171 27 [.ref x0, .int x1, .int x2] (.int (1) :: st) h Q) ∧
  (∀ (x0 : Nat) (x1 : Int32) (x2 : Int32) (y0 : Int32) (y1 : Int32) (st : List Value) (h : AH) (Q : Option Value → AH → Prop), WP 171 27 [.ref x0, .int x1, .int x2] (.int y0 :: .int y1 :: st) h Q ↔ ((¬ y1 = y0 → WP 171 39 [.ref x0, .int x1, .int x2] (st) h Q) ∧ (y1 = y0 → WP 171 30 [.ref x0, .int x1, .int x2] (st) h Q))) ∧
  (∀ (x0 : Nat) (x1 : Int32) (x2 : Int32) (st : List Value) (h : AH) (Q : Option Value → AH → Prop), WP 171 30 [.ref x0, .int x1, .int x2] (st) h Q ↔ WP 171 31 [.ref x0, .int x1, .int x2] (.ref x0 :: st) h Q) ∧
  (∀ (x0 : Nat) (x1 : Int32) (x2 : Int32) (y0 : Nat) (st : List Value) (h : AH) (Q : Option Value → AH → Prop) (ht : hT h y0 = 13), WP 171 31 [.ref x0, .int x1, .int x2] (.ref y0 :: st) h Q ↔ WP 171 34 [.ref x0, .int x1, .int x2] (.ref (hR h y0 6) :: st) h Q) ∧
  (∀ (x0 : Nat) (x1 : Int32) (x2 : Int32) (st : List Value) (h : AH) (Q : Option Value → AH → Prop), WP 171 34 [.ref x0, .int x1, .int x2] (st) h Q ↔ WP 171 35 [.ref x0, .int x1, .int x2] (.int x2 :: st) h Q) ∧
  (∀ (x0 : Nat) (x1 : Int32) (x2 : Int32) (y0 : Int32) (y1 : Nat) (st : List Value) (h : AH) (Q : Option Value → AH → Prop) (ht : hT h y1 = 100 ∨ hT h y1 = 110) (hi : inb y0 (hL h y1) = true), WP 171 35 [.ref x0, .int x1, .int x2] (.int y0 :: .ref y1 :: st) h Q ↔ WP 171 36 [.ref x0, .int x1, .int x2] (.int (hI h y1 y0.toNatClampNeg) :: st) h Q) ∧
  (∀ (x0 : Nat) (x1 : Int32) (x2 : Int32) (st : List Value) (h : AH) (Q : Option Value → AH → Prop), WP 171 36 [.ref x0, .int x1, .int x2] (st) h Q ↔ WP 171 40 [.ref x0, .int x1, .int x2] (st) h Q) ∧
  (∀ (x0 : Nat) (x1 : Int32) (x2 : Int32) (st : List Value) (h : AH) (Q : Option Value → AH → Prop), WP 171 39 [.ref x0, .int x1, .int x2] (st) h Q ↔ WP 171 40 [.ref x0, .int x1, .int x2] (.int (0) :: st) h Q) ∧
  (∀ (x0 : Nat) (x1 : Int32) (x2 : Int32) (y0 : Int32) (y1 : Int32) (st : List Value) (h : AH) (Q : Option Value → AH → Prop), WP 171 40 [.ref x0, .int x1, .int x2] (.int y0 :: .int y1 :: st) h Q ↔ WP 171 41 [.ref x0, .int x1, .int x2] (.int (y1 ||| y0) :: st) h Q) ∧
  (∀ (x0 : Nat) (x1 : Int32) (x2 : Int32) (y0 : Int32) (st : List Value) (h : AH) (Q : Option Value → AH → Prop), WP 171 41 [.ref x0, .int x1, .int x2] (.int y0 :: st) h Q ↔ WP 171 42 [.ref x0, .int y0, .int x2] (st) h Q) ∧
  (∀ (x0 : Nat) (x1 : Int32) (x2 : Int32) (st : List Value) (h : AH) (Q : Option Value → AH → Prop), WP 171 42 [.ref x0, .int x1, .int x2] (st) h Q ↔ WP 171 45 [.ref x0, .int x1, .int (x2 + (-1))] (st) h Q) ∧
  (∀ (x0 : Nat) (x1 : Int32) (x2 : Int32) (st : List Value) (h : AH) (Q : Option Value → AH → Prop), WP 171 45 [.ref x0, .int x1, .int x2] (st) h Q ↔ WP 171 16 [.ref x0, .int x1, .int x2] (st) h Q) ∧
  (∀ (x0 : Nat) (x1 : Int32) (x2 : Int32) (st : List Value) (h : AH) (Q : Option Value → AH → Prop), WP 171 48 [.ref x0, .int x1, .int x2] (st) h Q ↔ WP 171 49 [.ref x0, .int x1, .int x2] (.int x1 :: st) h Q) ∧
  (∀ (x0 : Nat) (x1 : Int32) (x2 : Int32) (y0 : Int32) (h : AH) (Q : Option Value → AH → Prop), WP 171 49 [.ref x0, .int x1, .int x2] ([.int y0]) h Q ↔ Q (some (.int y0)) h) :=
  ⟨fun _ _ _ _ => WP_s (show ct 171 0 = some (.aload_n 0, 0, []) by decide +kernel) rfl,
  fun _ _ _ _ _ ht => WH_gR (show ct 171 1 = some (.getfield 27, 1, [12, 9, 2, 1282]) by decide +kernel) ht,
  fun _ _ _ _ => WP_s (show ct 171 4 = some (.iconst 0, 0, []) by decide +kernel) rfl,
  fun _ _ _ _ _ _ ht hi => WH_iald (show ct 171 5 = some (.iaload, 1, []) by decide +kernel) ht hi,
  fun _ _ _ _ _ => WP_s (show ct 171 6 = some (.istore_n 1, 0, []) by decide +kernel) rfl,
  fun _ _ _ _ _ => WP_s (show ct 171 7 = some (.aload_n 0, 0, []) by decide +kernel) rfl,
  fun _ _ _ _ _ _ ht => WH_gR (show ct 171 8 = some (.getfield 24, 1, [12, 8, 2, 1281]) by decide +kernel) ht,
  fun _ _ _ _ _ => WP_s (show ct 171 11 = some (.iconst 0, 0, []) by decide +kernel) rfl,
  fun _ _ _ _ _ _ _ ht hi => WH_iald (show ct 171 12 = some (.iaload, 1, []) by decide +kernel) ht hi,
  fun _ _ _ _ _ => WP_s (show ct 171 13 = some (.iconst 1, 0, []) by decide +kernel) rfl,
  fun _ _ _ _ _ _ _ => WP_s (show ct 171 14 = some (.isub, 0, []) by decide +kernel) rfl,
  fun _ _ _ _ _ _ => WP_s (show ct 171 15 = some (.istore_n 2, 0, []) by decide +kernel) rfl,
  fun _ _ _ _ _ _ _ => WZ_lt (show ct 171 17 = some (.ifCond .lt 31, 0, [48]) by decide +kernel) (by decide),
  fun _ _ _ _ _ _ => WP_s (show ct 171 20 = some (.iload_n 1, 0, []) by decide +kernel) rfl,
  fun _ _ _ _ _ _ => WP_s (show ct 171 21 = some (.iload_n 1, 0, []) by decide +kernel) rfl,
  fun _ _ _ _ _ _ => WP_s (show ct 171 22 = some (.iload_n 2, 0, []) by decide +kernel) rfl,
  fun _ _ _ _ _ _ _ _ => WP_s (show ct 171 23 = some (.ishr, 0, []) by decide +kernel) rfl,
  fun _ _ _ _ _ _ => WP_s (show ct 171 24 = some (.iconst 1, 0, []) by decide +kernel) rfl,
  fun _ _ _ _ _ _ _ _ => WP_s (show ct 171 25 = some (.iand, 0, []) by decide +kernel) rfl,
  fun _ _ _ _ _ _ => WP_s (show ct 171 26 = some (.iconst 1, 0, []) by decide +kernel) rfl,
  fun _ _ _ _ _ _ _ _ => WI_ne (show ct 171 27 = some (.if_icmp .ne 12, 0, [39]) by decide +kernel) (by decide),
  fun _ _ _ _ _ _ => WP_s (show ct 171 30 = some (.aload_n 0, 0, []) by decide +kernel) rfl,
  fun _ _ _ _ _ _ _ ht => WH_gR (show ct 171 31 = some (.getfield 17, 1, [12, 6, 2, 1279]) by decide +kernel) ht,
  fun _ _ _ _ _ _ => WP_s (show ct 171 34 = some (.iload_n 2, 0, []) by decide +kernel) rfl,
  fun _ _ _ _ _ _ _ _ ht hi => WH_iald (show ct 171 35 = some (.iaload, 1, []) by decide +kernel) ht hi,
  fun _ _ _ _ _ _ => WP_s (show ct 171 36 = some (.goto 4, 0, [40]) by decide +kernel) rfl,
  fun _ _ _ _ _ _ => WP_s (show ct 171 39 = some (.iconst 0, 0, []) by decide +kernel) rfl,
  fun _ _ _ _ _ _ _ _ => WP_s (show ct 171 40 = some (.ior, 0, []) by decide +kernel) rfl,
  fun _ _ _ _ _ _ _ => WP_s (show ct 171 41 = some (.istore_n 1, 0, []) by decide +kernel) rfl,
  fun _ _ _ _ _ _ => WP_s (show ct 171 42 = some (.iinc 2 (-1), 0, []) by decide +kernel) rfl,
  fun _ _ _ _ _ _ => WP_s (show ct 171 45 = some (.goto (-29), 0, [16]) by decide +kernel) rfl,
  fun _ _ _ _ _ _ => WP_s (show ct 171 48 = some (.iload_n 1, 0, []) by decide +kernel) rfl,
  fun _ _ _ _ _ _ => WR_i (show ct 171 49 = some (.ireturn, 2, [0]) by decide +kernel)⟩

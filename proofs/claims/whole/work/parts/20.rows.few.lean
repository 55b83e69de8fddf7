/-! 104: FewBowls.<init>()V; loop heads [] -/
set_option maxRecDepth 10000 in
theorem w104_a : (∀ (x0 : Nat) (st : List Value) (h : AH) (Q : Option Value → AH → Prop), WP 104 0 [.ref x0, .retAddr 0, .retAddr 0] (st) h Q ↔ WP 104 1 [.ref x0, .retAddr 0, .retAddr 0] (.ref x0 :: st) h Q) ∧
  (∀ (x0 : Nat) (y0 : Nat) (h : AH) (Q : Option Value → AH → Prop) (h0 : y0 ≠ 0), WP 104 1 [.ref x0, .retAddr 0, .retAddr 0] ([.ref y0]) h Q ↔ WP 104 4 [.ref x0, .retAddr 0, .retAddr 0] ([]) h Q) ∧
  (∀ (x0 : Nat) (st : List Value) (h : AH) (Q : Option Value → AH → Prop), WP 104 4 [.ref x0, .retAddr 0, .retAddr 0] (st) h Q ↔ WP 104 5 [.ref x0, .retAddr 0, .retAddr 0] (.ref x0 :: st) h Q) ∧
  (∀ (x0 : Nat) (st : List Value) (h : AH) (Q : Option Value → AH → Prop), WP 104 5 [.ref x0, .retAddr 0, .retAddr 0] (st) h Q ↔ WP 104 8 [.ref x0, .retAddr 0, .retAddr 0] (.int (540) :: st) h Q) ∧
  (∀ (x0 : Nat) (y0 : Int32) (st : List Value) (h : AH) (Q : Option Value → AH → Prop) (h0 : 0 ≤ y0) (h1 : y0.toNatClampNeg ≤ 1048576), WP 104 8 [.ref x0, .retAddr 0, .retAddr 0] (.int y0 :: st) h Q ↔ WP 104 10 [.ref x0, .retAddr 0, .retAddr 0] (.ref (hN h) :: st) (nw h 101 y0.toNatClampNeg y0.toNatClampNeg) Q) ∧
  (∀ (x0 : Nat) (y0 : Nat) (y1 : Nat) (st : List Value) (h : AH) (Q : Option Value → AH → Prop) (ht : hT h y1 = 12), WP 104 10 [.ref x0, .retAddr 0, .retAddr 0] (.ref y0 :: .ref y1 :: st) h Q ↔ WP 104 13 [.ref x0, .retAddr 0, .retAddr 0] (st) (sR h y1 0 y0) Q) ∧
  (∀ (x0 : Nat) (st : List Value) (h : AH) (Q : Option Value → AH → Prop), WP 104 13 [.ref x0, .retAddr 0, .retAddr 0] (st) h Q ↔ WP 104 14 [.ref x0, .retAddr 0, .retAddr 0] (.ref x0 :: st) h Q) ∧
  (∀ (x0 : Nat) (st : List Value) (h : AH) (Q : Option Value → AH → Prop), WP 104 14 [.ref x0, .retAddr 0, .retAddr 0] (st) h Q ↔ WP 104 17 [.ref x0, .retAddr 0, .retAddr 0] (.ref (hN h) :: st) (nw h 4 0 14) Q) ∧
  (∀ (x0 : Nat) (y0 : Nat) (st : List Value) (h : AH) (Q : Option Value → AH → Prop), WP 104 17 [.ref x0, .retAddr 0, .retAddr 0] (.ref y0 :: st) h Q ↔ WP 104 18 [.ref x0, .retAddr 0, .retAddr 0] (.ref y0 :: .ref y0 :: st) h Q) ∧
  (∀ (x0 : Nat) (y2 : Nat) (y1 : Nat) (y0 : Nat) (h : AH) (Q : Option Value → AH → Prop) (ht : y0 ≠ 0), WP 104 18 [.ref x0, .retAddr 0, .retAddr 0] ([.ref y0, .ref y1, .ref y2]) h Q ↔ WPM 22 [.ref y0] h (fun r h' => WP 104 21 [.ref x0, .retAddr 0, .retAddr 0] (r.toList ++ [.ref y1, .ref y2]) h' Q)) ∧
  (∀ (x0 : Nat) (y0 : Nat) (y1 : Nat) (st : List Value) (h : AH) (Q : Option Value → AH → Prop) (ht : hT h y1 = 12), WP 104 21 [.ref x0, .retAddr 0, .retAddr 0] (.ref y0 :: .ref y1 :: st) h Q ↔ WP 104 24 [.ref x0, .retAddr 0, .retAddr 0] (st) (sR h y1 2 y0) Q) ∧
  (∀ (x0 : Nat) (st : List Value) (h : AH) (Q : Option Value → AH → Prop), WP 104 24 [.ref x0, .retAddr 0, .retAddr 0] (st) h Q ↔ WP 104 25 [.ref x0, .retAddr 0, .retAddr 0] (.ref x0 :: st) h Q) ∧
  (∀ (x0 : Nat) (st : List Value) (h : AH) (Q : Option Value → AH → Prop), WP 104 25 [.ref x0, .retAddr 0, .retAddr 0] (st) h Q ↔ WP 104 28 [.ref x0, .retAddr 0, .retAddr 0] (.ref (hN h) :: st) (nw h 4 0 14) Q) ∧
  (∀ (x0 : Nat) (y0 : Nat) (st : List Value) (h : AH) (Q : Option Value → AH → Prop), WP 104 28 [.ref x0, .retAddr 0, .retAddr 0] (.ref y0 :: st) h Q ↔ WP 104 29 [.ref x0, .retAddr 0, .retAddr 0] (.ref y0 :: .ref y0 :: st) h Q) ∧
  (∀ (x0 : Nat) (y2 : Nat) (y1 : Nat) (y0 : Nat) (h : AH) (Q : Option Value → AH → Prop) (ht : y0 ≠ 0), WP 104 29 [.ref x0, .retAddr 0, .retAddr 0] ([.ref y0, .ref y1, .ref y2]) h Q ↔ WPM 22 [.ref y0] h (fun r h' => WP 104 32 [.ref x0, .retAddr 0, .retAddr 0] (r.toList ++ [.ref y1, .ref y2]) h' Q)) ∧
  (∀ (x0 : Nat) (y0 : Nat) (y1 : Nat) (st : List Value) (h : AH) (Q : Option Value → AH → Prop) (ht : hT h y1 = 12), WP 104 32 [.ref x0, .retAddr 0, .retAddr 0] (.ref y0 :: .ref y1 :: st) h Q ↔ WP 104 35 [.ref x0, .retAddr 0, .retAddr 0] (st) (sR h y1 3 y0) Q) ∧
  (∀ (x0 : Nat) (st : List Value) (h : AH) (Q : Option Value → AH → Prop), WP 104 35 [.ref x0, .retAddr 0, .retAddr 0] (st) h Q ↔ WP 104 36 [.ref x0, .retAddr 0, .retAddr 0] (.ref x0 :: st) h Q) ∧
  (∀ (x0 : Nat) (st : List Value) (h : AH) (Q : Option Value → AH → Prop), WP 104 36 [.ref x0, .retAddr 0, .retAddr 0] (st) h Q ↔ WP 104 39 [.ref x0, .retAddr 0, .retAddr 0] (.ref (hN h) :: st) (nw h 8 0 5) Q) ∧
  (∀ (x0 : Nat) (y0 : Nat) (st : List Value) (h : AH) (Q : Option Value → AH → Prop), WP 104 39 [.ref x0, .retAddr 0, .retAddr 0] (.ref y0 :: st) h Q ↔ WP 104 40 [.ref x0, .retAddr 0, .retAddr 0] (.ref y0 :: .ref y0 :: st) h Q) ∧
  (∀ (x0 : Nat) (y2 : Nat) (y1 : Nat) (y0 : Nat) (h : AH) (Q : Option Value → AH → Prop) (ht : y0 ≠ 0), WP 104 40 [.ref x0, .retAddr 0, .retAddr 0] ([.ref y0, .ref y1, .ref y2]) h Q ↔ WPM 62 [.ref y0] h (fun r h' => WP 104 43 [.ref x0, .retAddr 0, .retAddr 0] (r.toList ++ [.ref y1, .ref y2]) h' Q)) ∧
  (∀ (x0 : Nat) (y0 : Nat) (y1 : Nat) (st : List Value) (h : AH) (Q : Option Value → AH → Prop) (ht : hT h y1 = 12), WP 104 43 [.ref x0, .retAddr 0, .retAddr 0] (.ref y0 :: .ref y1 :: st) h Q ↔ WP 104 46 [.ref x0, .retAddr 0, .retAddr 0] (st) (sR h y1 4 y0) Q) ∧
  (∀ (x0 : Nat) (st : List Value) (h : AH) (Q : Option Value → AH → Prop), WP 104 46 [.ref x0, .retAddr 0, .retAddr 0] (st) h Q ↔ WP 104 49 [.ref x0, .retAddr 0, .retAddr 0] (.ref (hN h) :: st) (nw h 3 0 4) Q) ∧
  (∀ (x0 : Nat) (y0 : Nat) (st : List Value) (h : AH) (Q : Option Value → AH → Prop), WP 104 49 [.ref x0, .retAddr 0, .retAddr 0] (.ref y0 :: st) h Q ↔ WP 104 50 [.ref x0, .retAddr 0, .retAddr 0] (.ref y0 :: .ref y0 :: st) h Q) ∧
  (∀ (x0 : Nat) (y1 : Nat) (y0 : Nat) (h : AH) (Q : Option Value → AH → Prop) (ht : y0 ≠ 0), WP 104 50 [.ref x0, .retAddr 0, .retAddr 0] ([.ref y0, .ref y1]) h Q ↔ WPM 17 [.ref y0] h (fun r h' => WP 104 53 [.ref x0, .retAddr 0, .retAddr 0] (r.toList ++ [.ref y1]) h' Q)) ∧
  (∀ (x0 : Nat) (y0 : Nat) (st : List Value) (h : AH) (Q : Option Value → AH → Prop), WP 104 53 [.ref x0, .retAddr 0, .retAddr 0] (.ref y0 :: st) h Q ↔ WP 104 54 [.ref x0, .ref y0, .retAddr 0] (st) h Q) ∧
  (∀ (x0 : Nat) (x1 : Nat) (st : List Value) (h : AH) (Q : Option Value → AH → Prop), WP 104 54 [.ref x0, .ref x1, .retAddr 0] (st) h Q ↔ WP 104 57 [.ref x0, .ref x1, .retAddr 0] (.ref (hN h) :: st) (nw h 1 0 7) Q) ∧
  (∀ (x0 : Nat) (x1 : Nat) (y0 : Nat) (st : List Value) (h : AH) (Q : Option Value → AH → Prop), WP 104 57 [.ref x0, .ref x1, .retAddr 0] (.ref y0 :: st) h Q ↔ WP 104 58 [.ref x0, .ref x1, .retAddr 0] (.ref y0 :: .ref y0 :: st) h Q) ∧
  (∀ (x0 : Nat) (x1 : Nat) (y1 : Nat) (y0 : Nat) (h : AH) (Q : Option Value → AH → Prop) (ht : y0 ≠ 0), WP 104 58 [.ref x0, .ref x1, .retAddr 0] ([.ref y0, .ref y1]) h Q ↔ WPM 0 [.ref y0] h (fun r h' => WP 104 61 [.ref x0, .ref x1, .retAddr 0] (r.toList ++ [.ref y1]) h' Q)) ∧
  (∀ (x0 : Nat) (x1 : Nat) (y0 : Nat) (st : List Value) (h : AH) (Q : Option Value → AH → Prop), WP 104 61 [.ref x0, .ref x1, .retAddr 0] (.ref y0 :: st) h Q ↔ WP 104 62 [.ref x0, .ref x1, .ref y0] (st) h Q) ∧
  (∀ (x0 : Nat) (x1 : Nat) (x2 : Nat) (st : List Value) (h : AH) (Q : Option Value → AH → Prop), WP 104 62 [.ref x0, .ref x1, .ref x2] (st) h Q ↔ WP 104 63 [.ref x0, .ref x1, .ref x2] (.ref x0 :: st) h Q) ∧
  (∀ (x0 : Nat) (x1 : Nat) (x2 : Nat) (st : List Value) (h : AH) (Q : Option Value → AH → Prop), WP 104 63 [.ref x0, .ref x1, .ref x2] (st) h Q ↔ WP 104 66 [.ref x0, .ref x1, .ref x2] (.ref (hN h) :: st) (nw h 6 0 10) Q) ∧
  (∀ (x0 : Nat) (x1 : Nat) (x2 : Nat) (y0 : Nat) (st : List Value) (h : AH) (Q : Option Value → AH → Prop), WP 104 66 [.ref x0, .ref x1, .ref x2] (.ref y0 :: st) h Q ↔ WP 104 67 [.ref x0, .ref x1, .ref x2] (.ref y0 :: .ref y0 :: st) h Q) ∧
  (∀ (x0 : Nat) (x1 : Nat) (x2 : Nat) (st : List Value) (h : AH) (Q : Option Value → AH → Prop), WP 104 67 [.ref x0, .ref x1, .ref x2] (st) h Q ↔ WP 104 68 [.ref x0, .ref x1, .ref x2] (.ref x1 :: st) h Q) ∧
  (∀ (x0 : Nat) (x1 : Nat) (x2 : Nat) (st : List Value) (h : AH) (Q : Option Value → AH → Prop), WP 104 68 [.ref x0, .ref x1, .ref x2] (st) h Q ↔ WP 104 69 [.ref x0, .ref x1, .ref x2] (.ref x2 :: st) h Q) ∧
  (∀ (x0 : Nat) (x1 : Nat) (x2 : Nat) (y4 : Nat) (y3 : Nat) (y2 : Nat) (y1 : Nat) (y0 : Nat) (h : AH) (Q : Option Value → AH → Prop) (ht : y2 ≠ 0), WP 104 69 [.ref x0, .ref x1, .ref x2] ([.ref y0, .ref y1, .ref y2, .ref y3, .ref y4]) h Q ↔ WPM 44 [.ref y2, .ref y1, .ref y0] h (fun r h' => WP 104 72 [.ref x0, .ref x1, .ref x2] (r.toList ++ [.ref y3, .ref y4]) h' Q)) ∧
  (∀ (x0 : Nat) (x1 : Nat) (x2 : Nat) (y0 : Nat) (y1 : Nat) (st : List Value) (h : AH) (Q : Option Value → AH → Prop) (ht : hT h y1 = 12), WP 104 72 [.ref x0, .ref x1, .ref x2] (.ref y0 :: .ref y1 :: st) h Q ↔ WP 104 75 [.ref x0, .ref x1, .ref x2] (st) (sR h y1 5 y0) Q) ∧
  (∀ (x0 : Nat) (x1 : Nat) (x2 : Nat) (st : List Value) (h : AH) (Q : Option Value → AH → Prop), WP 104 75 [.ref x0, .ref x1, .ref x2] (st) h Q ↔ WP 104 76 [.ref x0, .ref x1, .ref x2] (.ref x0 :: st) h Q) ∧
  (∀ (x0 : Nat) (x1 : Nat) (x2 : Nat) (st : List Value) (h : AH) (Q : Option Value → AH → Prop), WP 104 76 [.ref x0, .ref x1, .ref x2] (st) h Q ↔ WP 104 79 [.ref x0, .ref x1, .ref x2] (.ref (hN h) :: st) (nw h 7 0 8) Q) ∧
  (∀ (x0 : Nat) (x1 : Nat) (x2 : Nat) (y0 : Nat) (st : List Value) (h : AH) (Q : Option Value → AH → Prop), WP 104 79 [.ref x0, .ref x1, .ref x2] (.ref y0 :: st) h Q ↔ WP 104 80 [.ref x0, .ref x1, .ref x2] (.ref y0 :: .ref y0 :: st) h Q) ∧
  (∀ (x0 : Nat) (x1 : Nat) (x2 : Nat) (st : List Value) (h : AH) (Q : Option Value → AH → Prop), WP 104 80 [.ref x0, .ref x1, .ref x2] (st) h Q ↔ WP 104 81 [.ref x0, .ref x1, .ref x2] (.ref x1 :: st) h Q) :=
  ⟨fun _ _ _ _ => WP_s (show ct 104 0 = some (.aload_n 0, 0, []) by decide +kernel) rfl,
  fun _ _ _ _ h0 => WH_obj (show ct 104 1 = some (.invokespecial 1, 1, [123, 124, 125]) by decide +kernel) h0 (Nat.le_of_ble_eq_true rfl),
  fun _ _ _ _ => WP_s (show ct 104 4 = some (.aload_n 0, 0, []) by decide +kernel) rfl,
  fun _ _ _ _ => WP_s (show ct 104 5 = some (.sipush 540, 0, []) by decide +kernel) rfl,
  fun _ _ _ _ _ h0 h1 => WH_newa (show ct 104 8 = some (.newarray .byte, 1, [101, 208]) by decide +kernel) (by decide) h0 h1,
  fun _ _ _ _ _ _ ht => WH_pR (show ct 104 10 = some (.putfield 9, 1, [11, 0, 2, 1, 574]) by decide +kernel) ht,
  fun _ _ _ _ => WP_s (show ct 104 13 = some (.aload_n 0, 0, []) by decide +kernel) rfl,
  fun _ _ _ _ => WH_new (show ct 104 14 = some (.new 13, 1, [3, 14, 126, 127, 96]) by decide +kernel),
  fun _ _ _ _ _ => WP_s (show ct 104 17 = some (.dup, 0, []) by decide +kernel) rfl,
  fun _ _ _ _ _ _ ht => WC_2 (show ct 104 18 = some (.invokespecial 15, 3, [22, 1, 2, 0, 1, 128, 129, 0]) by decide +kernel) (Nat.le_of_ble_eq_true rfl) (Nat.le_of_ble_eq_true rfl) rfl rfl ht,
  fun _ _ _ _ _ _ ht => WH_pR (show ct 104 21 = some (.putfield 16, 1, [11, 2, 2, 0, 576]) by decide +kernel) ht,
  fun _ _ _ _ => WP_s (show ct 104 24 = some (.aload_n 0, 0, []) by decide +kernel) rfl,
  fun _ _ _ _ => WH_new (show ct 104 25 = some (.new 13, 1, [3, 14, 126, 127, 96]) by decide +kernel),
  fun _ _ _ _ _ => WP_s (show ct 104 28 = some (.dup, 0, []) by decide +kernel) rfl,
  fun _ _ _ _ _ _ ht => WC_2 (show ct 104 29 = some (.invokespecial 15, 3, [22, 1, 2, 0, 1, 128, 129, 0]) by decide +kernel) (Nat.le_of_ble_eq_true rfl) (Nat.le_of_ble_eq_true rfl) rfl rfl ht,
  fun _ _ _ _ _ _ ht => WH_pR (show ct 104 32 = some (.putfield 20, 1, [11, 3, 2, 0, 577]) by decide +kernel) ht,
  fun _ _ _ _ => WP_s (show ct 104 35 = some (.aload_n 0, 0, []) by decide +kernel) rfl,
  fun _ _ _ _ => WH_new (show ct 104 36 = some (.new 23, 1, [7, 5, 210, 211, 97]) by decide +kernel),
  fun _ _ _ _ _ => WP_s (show ct 104 39 = some (.dup, 0, []) by decide +kernel) rfl,
  fun _ _ _ _ _ _ ht => WC_2 (show ct 104 40 = some (.invokespecial 25, 3, [62, 1, 2, 0, 1, 212, 213, 0]) by decide +kernel) (Nat.le_of_ble_eq_true rfl) (Nat.le_of_ble_eq_true rfl) rfl rfl ht,
  fun _ _ _ _ _ _ ht => WH_pR (show ct 104 43 = some (.putfield 26, 1, [11, 4, 2, 1, 578]) by decide +kernel) ht,
  fun _ _ _ _ => WH_new (show ct 104 46 = some (.new 30, 1, [2, 4, 325, 326, 103]) by decide +kernel),
  fun _ _ _ _ _ => WP_s (show ct 104 49 = some (.dup, 0, []) by decide +kernel) rfl,
  fun _ _ _ _ _ ht => WC_2 (show ct 104 50 = some (.invokespecial 32, 3, [17, 1, 2, 0, 1, 327, 328, 0]) by decide +kernel) (Nat.le_of_ble_eq_true rfl) (Nat.le_of_ble_eq_true rfl) rfl rfl ht,
  fun _ _ _ _ _ => WP_s (show ct 104 53 = some (.astore_n 1, 0, []) by decide +kernel) rfl,
  fun _ _ _ _ _ => WH_new (show ct 104 54 = some (.new 33, 1, [0, 7, 345, 346, 104]) by decide +kernel),
  fun _ _ _ _ _ _ => WP_s (show ct 104 57 = some (.dup, 0, []) by decide +kernel) rfl,
  fun _ _ _ _ _ _ ht => WC_2 (show ct 104 58 = some (.invokespecial 35, 3, [0, 1, 2, 0, 1, 347, 348, 0]) by decide +kernel) (Nat.le_of_ble_eq_true rfl) (Nat.le_of_ble_eq_true rfl) rfl rfl ht,
  fun _ _ _ _ _ _ => WP_s (show ct 104 61 = some (.astore_n 2, 0, []) by decide +kernel) rfl,
  fun _ _ _ _ _ _ => WP_s (show ct 104 62 = some (.aload_n 0, 0, []) by decide +kernel) rfl,
  fun _ _ _ _ _ _ => WH_new (show ct 104 63 = some (.new 36, 1, [5, 10, 379, 380, 105]) by decide +kernel),
  fun _ _ _ _ _ _ _ => WP_s (show ct 104 66 = some (.dup, 0, []) by decide +kernel) rfl,
  fun _ _ _ _ _ _ => WP_s (show ct 104 67 = some (.aload_n 1, 0, []) by decide +kernel) rfl,
  fun _ _ _ _ _ _ => WP_s (show ct 104 68 = some (.aload_n 2, 0, []) by decide +kernel) rfl,
  fun _ _ _ _ _ _ _ _ _ _ ht => WC_2 (show ct 104 69 = some (.invokespecial 38, 3, [44, 3, 2, 0, 0, 381, 382, 0]) by decide +kernel) (Nat.le_of_ble_eq_true rfl) (Nat.le_of_ble_eq_true rfl) rfl rfl ht,
  fun _ _ _ _ _ _ _ _ ht => WH_pR (show ct 104 72 = some (.putfield 41, 1, [11, 5, 2, 1, 579]) by decide +kernel) ht,
  fun _ _ _ _ _ _ => WP_s (show ct 104 75 = some (.aload_n 0, 0, []) by decide +kernel) rfl,
  fun _ _ _ _ _ _ => WH_new (show ct 104 76 = some (.new 45, 1, [6, 8, 422, 423, 106]) by decide +kernel),
  fun _ _ _ _ _ _ _ => WP_s (show ct 104 79 = some (.dup, 0, []) by decide +kernel) rfl,
  fun _ _ _ _ _ _ => WP_s (show ct 104 80 = some (.aload_n 1, 0, []) by decide +kernel) rfl⟩
set_option maxRecDepth 10000 in
theorem w104_b : (∀ (x0 : Nat) (x1 : Nat) (x2 : Nat) (st : List Value) (h : AH) (Q : Option Value → AH → Prop), WP 104 81 [.ref x0, .ref x1, .ref x2] (st) h Q ↔ WP 104 82 [.ref x0, .ref x1, .ref x2] (.ref x2 :: st) h Q) ∧
  (∀ (x0 : Nat) (x1 : Nat) (x2 : Nat) (y4 : Nat) (y3 : Nat) (y2 : Nat) (y1 : Nat) (y0 : Nat) (h : AH) (Q : Option Value → AH → Prop) (ht : y2 ≠ 0), WP 104 82 [.ref x0, .ref x1, .ref x2] ([.ref y0, .ref y1, .ref y2, .ref y3, .ref y4]) h Q ↔ WPM 50 [.ref y2, .ref y1, .ref y0] h (fun r h' => WP 104 85 [.ref x0, .ref x1, .ref x2] (r.toList ++ [.ref y3, .ref y4]) h' Q)) ∧
  (∀ (x0 : Nat) (x1 : Nat) (x2 : Nat) (y0 : Nat) (y1 : Nat) (st : List Value) (h : AH) (Q : Option Value → AH → Prop) (ht : hT h y1 = 12), WP 104 85 [.ref x0, .ref x1, .ref x2] (.ref y0 :: .ref y1 :: st) h Q ↔ WP 104 88 [.ref x0, .ref x1, .ref x2] (st) (sR h y1 6 y0) Q) ∧
  (∀ (x0 : Nat) (x1 : Nat) (x2 : Nat) (st : List Value) (h : AH) (Q : Option Value → AH → Prop), WP 104 88 [.ref x0, .ref x1, .ref x2] (st) h Q ↔ WP 104 89 [.ref x0, .ref x1, .ref x2] (.ref x0 :: st) h Q) ∧
  (∀ (x0 : Nat) (x1 : Nat) (x2 : Nat) (st : List Value) (h : AH) (Q : Option Value → AH → Prop), WP 104 89 [.ref x0, .ref x1, .ref x2] (st) h Q ↔ WP 104 92 [.ref x0, .ref x1, .ref x2] (.ref (hN h) :: st) (nw h 9 0 9) Q) ∧
  (∀ (x0 : Nat) (x1 : Nat) (x2 : Nat) (y0 : Nat) (st : List Value) (h : AH) (Q : Option Value → AH → Prop), WP 104 92 [.ref x0, .ref x1, .ref x2] (.ref y0 :: st) h Q ↔ WP 104 93 [.ref x0, .ref x1, .ref x2] (.ref y0 :: .ref y0 :: st) h Q) ∧
  (∀ (x0 : Nat) (x1 : Nat) (x2 : Nat) (st : List Value) (h : AH) (Q : Option Value → AH → Prop), WP 104 93 [.ref x0, .ref x1, .ref x2] (st) h Q ↔ WP 104 94 [.ref x0, .ref x1, .ref x2] (.ref x1 :: st) h Q) ∧
  (∀ (x0 : Nat) (x1 : Nat) (x2 : Nat) (st : List Value) (h : AH) (Q : Option Value → AH → Prop), WP 104 94 [.ref x0, .ref x1, .ref x2] (st) h Q ↔ WP 104 95 [.ref x0, .ref x1, .ref x2] (.ref x2 :: st) h Q) ∧
  (∀ (x0 : Nat) (x1 : Nat) (x2 : Nat) (y4 : Nat) (y3 : Nat) (y2 : Nat) (y1 : Nat) (y0 : Nat) (h : AH) (Q : Option Value → AH → Prop) (ht : y2 ≠ 0), WP 104 95 [.ref x0, .ref x1, .ref x2] ([.ref y0, .ref y1, .ref y2, .ref y3, .ref y4]) h Q ↔ WPM 74 [.ref y2, .ref y1, .ref y0] h (fun r h' => WP 104 98 [.ref x0, .ref x1, .ref x2] (r.toList ++ [.ref y3, .ref y4]) h' Q)) ∧
  (∀ (x0 : Nat) (x1 : Nat) (x2 : Nat) (y0 : Nat) (y1 : Nat) (st : List Value) (h : AH) (Q : Option Value → AH → Prop) (ht : hT h y1 = 12), WP 104 98 [.ref x0, .ref x1, .ref x2] (.ref y0 :: .ref y1 :: st) h Q ↔ WP 104 101 [.ref x0, .ref x1, .ref x2] (st) (sR h y1 7 y0) Q) ∧
  (∀ (x0 : Nat) (x1 : Nat) (x2 : Nat) (st : List Value) (h : AH) (Q : Option Value → AH → Prop), WP 104 101 [.ref x0, .ref x1, .ref x2] (st) h Q ↔ WP 104 102 [.ref x0, .ref x1, .ref x2] (.ref x0 :: st) h Q) ∧
  (∀ (x0 : Nat) (x1 : Nat) (x2 : Nat) (st : List Value) (h : AH) (Q : Option Value → AH → Prop), WP 104 102 [.ref x0, .ref x1, .ref x2] (st) h Q ↔ WP 104 105 [.ref x0, .ref x1, .ref x2] (.ref (hN h) :: st) (nw h 2 0 7) Q) ∧
  (∀ (x0 : Nat) (x1 : Nat) (x2 : Nat) (y0 : Nat) (st : List Value) (h : AH) (Q : Option Value → AH → Prop), WP 104 105 [.ref x0, .ref x1, .ref x2] (.ref y0 :: st) h Q ↔ WP 104 106 [.ref x0, .ref x1, .ref x2] (.ref y0 :: .ref y0 :: st) h Q) ∧
  (∀ (x0 : Nat) (x1 : Nat) (x2 : Nat) (st : List Value) (h : AH) (Q : Option Value → AH → Prop), WP 104 106 [.ref x0, .ref x1, .ref x2] (st) h Q ↔ WP 104 107 [.ref x0, .ref x1, .ref x2] (.ref x1 :: st) h Q) ∧
  (∀ (x0 : Nat) (x1 : Nat) (x2 : Nat) (st : List Value) (h : AH) (Q : Option Value → AH → Prop), WP 104 107 [.ref x0, .ref x1, .ref x2] (st) h Q ↔ WP 104 108 [.ref x0, .ref x1, .ref x2] (.ref x2 :: st) h Q) ∧
  (∀ (x0 : Nat) (x1 : Nat) (x2 : Nat) (y4 : Nat) (y3 : Nat) (y2 : Nat) (y1 : Nat) (y0 : Nat) (h : AH) (Q : Option Value → AH → Prop) (ht : y2 ≠ 0), WP 104 108 [.ref x0, .ref x1, .ref x2] ([.ref y0, .ref y1, .ref y2, .ref y3, .ref y4]) h Q ↔ WPM 9 [.ref y2, .ref y1, .ref y0] h (fun r h' => WP 104 111 [.ref x0, .ref x1, .ref x2] (r.toList ++ [.ref y3, .ref y4]) h' Q)) ∧
  (∀ (x0 : Nat) (x1 : Nat) (x2 : Nat) (y0 : Nat) (y1 : Nat) (st : List Value) (h : AH) (Q : Option Value → AH → Prop) (ht : hT h y1 = 12), WP 104 111 [.ref x0, .ref x1, .ref x2] (.ref y0 :: .ref y1 :: st) h Q ↔ WP 104 114 [.ref x0, .ref x1, .ref x2] (st) (sR h y1 8 y0) Q) ∧
  (∀ (x0 : Nat) (x1 : Nat) (x2 : Nat) (st : List Value) (h : AH) (Q : Option Value → AH → Prop), WP 104 114 [.ref x0, .ref x1, .ref x2] (st) h Q ↔ WP 104 115 [.ref x0, .ref x1, .ref x2] (.ref x0 :: st) h Q) ∧
  (∀ (x0 : Nat) (x1 : Nat) (x2 : Nat) (st : List Value) (h : AH) (Q : Option Value → AH → Prop), WP 104 115 [.ref x0, .ref x1, .ref x2] (st) h Q ↔ WP 104 118 [.ref x0, .ref x1, .ref x2] (.ref (hN h) :: st) (nw h 5 0 8) Q) ∧
  (∀ (x0 : Nat) (x1 : Nat) (x2 : Nat) (y0 : Nat) (st : List Value) (h : AH) (Q : Option Value → AH → Prop), WP 104 118 [.ref x0, .ref x1, .ref x2] (.ref y0 :: st) h Q ↔ WP 104 119 [.ref x0, .ref x1, .ref x2] (.ref y0 :: .ref y0 :: st) h Q) ∧
  (∀ (x0 : Nat) (x1 : Nat) (x2 : Nat) (st : List Value) (h : AH) (Q : Option Value → AH → Prop), WP 104 119 [.ref x0, .ref x1, .ref x2] (st) h Q ↔ WP 104 120 [.ref x0, .ref x1, .ref x2] (.ref x1 :: st) h Q) ∧
  (∀ (x0 : Nat) (x1 : Nat) (x2 : Nat) (y3 : Nat) (y2 : Nat) (y1 : Nat) (y0 : Nat) (h : AH) (Q : Option Value → AH → Prop) (ht : y1 ≠ 0), WP 104 120 [.ref x0, .ref x1, .ref x2] ([.ref y0, .ref y1, .ref y2, .ref y3]) h Q ↔ WPM 33 [.ref y1, .ref y0] h (fun r h' => WP 104 123 [.ref x0, .ref x1, .ref x2] (r.toList ++ [.ref y2, .ref y3]) h' Q)) ∧
  (∀ (x0 : Nat) (x1 : Nat) (x2 : Nat) (y0 : Nat) (y1 : Nat) (st : List Value) (h : AH) (Q : Option Value → AH → Prop) (ht : hT h y1 = 12), WP 104 123 [.ref x0, .ref x1, .ref x2] (.ref y0 :: .ref y1 :: st) h Q ↔ WP 104 126 [.ref x0, .ref x1, .ref x2] (st) (sR h y1 9 y0) Q) ∧
  (∀ (x0 : Nat) (x1 : Nat) (x2 : Nat) (st : List Value) (h : AH) (Q : Option Value → AH → Prop), WP 104 126 [.ref x0, .ref x1, .ref x2] (st) h Q ↔ WP 104 127 [.ref x0, .ref x1, .ref x2] (.ref x0 :: st) h Q) ∧
  (∀ (x0 : Nat) (x1 : Nat) (x2 : Nat) (st : List Value) (h : AH) (Q : Option Value → AH → Prop), WP 104 127 [.ref x0, .ref x1, .ref x2] (st) h Q ↔ WP 104 130 [.ref x0, .ref x1, .ref x2] (.ref (hN h) :: st) (nw h 10 0 5) Q) ∧
  (∀ (x0 : Nat) (x1 : Nat) (x2 : Nat) (y0 : Nat) (st : List Value) (h : AH) (Q : Option Value → AH → Prop), WP 104 130 [.ref x0, .ref x1, .ref x2] (.ref y0 :: st) h Q ↔ WP 104 131 [.ref x0, .ref x1, .ref x2] (.ref y0 :: .ref y0 :: st) h Q) ∧
  (∀ (x0 : Nat) (x1 : Nat) (x2 : Nat) (st : List Value) (h : AH) (Q : Option Value → AH → Prop), WP 104 131 [.ref x0, .ref x1, .ref x2] (st) h Q ↔ WP 104 132 [.ref x0, .ref x1, .ref x2] (.ref x1 :: st) h Q) ∧
  (∀ (x0 : Nat) (x1 : Nat) (x2 : Nat) (y3 : Nat) (y2 : Nat) (y1 : Nat) (y0 : Nat) (h : AH) (Q : Option Value → AH → Prop) (ht : y1 ≠ 0), WP 104 132 [.ref x0, .ref x1, .ref x2] ([.ref y0, .ref y1, .ref y2, .ref y3]) h Q ↔ WPM 81 [.ref y1, .ref y0] h (fun r h' => WP 104 135 [.ref x0, .ref x1, .ref x2] (r.toList ++ [.ref y2, .ref y3]) h' Q)) ∧
  (∀ (x0 : Nat) (x1 : Nat) (x2 : Nat) (y0 : Nat) (y1 : Nat) (st : List Value) (h : AH) (Q : Option Value → AH → Prop) (ht : hT h y1 = 12), WP 104 135 [.ref x0, .ref x1, .ref x2] (.ref y0 :: .ref y1 :: st) h Q ↔ WP 104 138 [.ref x0, .ref x1, .ref x2] (st) (sR h y1 10 y0) Q) ∧
  (∀ (x0 : Nat) (x1 : Nat) (x2 : Nat) (h : AH) (Q : Option Value → AH → Prop), WP 104 138 [.ref x0, .ref x1, .ref x2] ([]) h Q ↔ Q none h) :=
  ⟨fun _ _ _ _ _ _ => WP_s (show ct 104 81 = some (.aload_n 2, 0, []) by decide +kernel) rfl,
  fun _ _ _ _ _ _ _ _ _ _ ht => WC_2 (show ct 104 82 = some (.invokespecial 47, 3, [50, 3, 2, 0, 0, 424, 425, 0]) by decide +kernel) (Nat.le_of_ble_eq_true rfl) (Nat.le_of_ble_eq_true rfl) rfl rfl ht,
  fun _ _ _ _ _ _ _ _ ht => WH_pR (show ct 104 85 = some (.putfield 48, 1, [11, 6, 2, 1, 580]) by decide +kernel) ht,
  fun _ _ _ _ _ _ => WP_s (show ct 104 88 = some (.aload_n 0, 0, []) by decide +kernel) rfl,
  fun _ _ _ _ _ _ => WH_new (show ct 104 89 = some (.new 52, 1, [8, 9, 453, 454, 107]) by decide +kernel),
  fun _ _ _ _ _ _ _ => WP_s (show ct 104 92 = some (.dup, 0, []) by decide +kernel) rfl,
  fun _ _ _ _ _ _ => WP_s (show ct 104 93 = some (.aload_n 1, 0, []) by decide +kernel) rfl,
  fun _ _ _ _ _ _ => WP_s (show ct 104 94 = some (.aload_n 2, 0, []) by decide +kernel) rfl,
  fun _ _ _ _ _ _ _ _ _ _ ht => WC_2 (show ct 104 95 = some (.invokespecial 54, 3, [74, 3, 2, 0, 0, 455, 456, 0]) by decide +kernel) (Nat.le_of_ble_eq_true rfl) (Nat.le_of_ble_eq_true rfl) rfl rfl ht,
  fun _ _ _ _ _ _ _ _ ht => WH_pR (show ct 104 98 = some (.putfield 55, 1, [11, 7, 2, 1, 581]) by decide +kernel) ht,
  fun _ _ _ _ _ _ => WP_s (show ct 104 101 = some (.aload_n 0, 0, []) by decide +kernel) rfl,
  fun _ _ _ _ _ _ => WH_new (show ct 104 102 = some (.new 59, 1, [1, 7, 490, 491, 108]) by decide +kernel),
  fun _ _ _ _ _ _ _ => WP_s (show ct 104 105 = some (.dup, 0, []) by decide +kernel) rfl,
  fun _ _ _ _ _ _ => WP_s (show ct 104 106 = some (.aload_n 1, 0, []) by decide +kernel) rfl,
  fun _ _ _ _ _ _ => WP_s (show ct 104 107 = some (.aload_n 2, 0, []) by decide +kernel) rfl,
  fun _ _ _ _ _ _ _ _ _ _ ht => WC_2 (show ct 104 108 = some (.invokespecial 61, 3, [9, 3, 2, 0, 0, 492, 493, 0]) by decide +kernel) (Nat.le_of_ble_eq_true rfl) (Nat.le_of_ble_eq_true rfl) rfl rfl ht,
  fun _ _ _ _ _ _ _ _ ht => WH_pR (show ct 104 111 = some (.putfield 62, 1, [11, 8, 2, 1, 582]) by decide +kernel) ht,
  fun _ _ _ _ _ _ => WP_s (show ct 104 114 = some (.aload_n 0, 0, []) by decide +kernel) rfl,
  fun _ _ _ _ _ _ => WH_new (show ct 104 115 = some (.new 66, 1, [4, 8, 518, 519, 109]) by decide +kernel),
  fun _ _ _ _ _ _ _ => WP_s (show ct 104 118 = some (.dup, 0, []) by decide +kernel) rfl,
  fun _ _ _ _ _ _ => WP_s (show ct 104 119 = some (.aload_n 1, 0, []) by decide +kernel) rfl,
  fun _ _ _ _ _ _ _ _ _ ht => WC_2 (show ct 104 120 = some (.invokespecial 68, 3, [33, 2, 2, 0, 0, 520, 521, 0]) by decide +kernel) (Nat.le_of_ble_eq_true rfl) (Nat.le_of_ble_eq_true rfl) rfl rfl ht,
  fun _ _ _ _ _ _ _ _ ht => WH_pR (show ct 104 123 = some (.putfield 71, 1, [11, 9, 2, 1, 583]) by decide +kernel) ht,
  fun _ _ _ _ _ _ => WP_s (show ct 104 126 = some (.aload_n 0, 0, []) by decide +kernel) rfl,
  fun _ _ _ _ _ _ => WH_new (show ct 104 127 = some (.new 75, 1, [9, 5, 552, 553, 110]) by decide +kernel),
  fun _ _ _ _ _ _ _ => WP_s (show ct 104 130 = some (.dup, 0, []) by decide +kernel) rfl,
  fun _ _ _ _ _ _ => WP_s (show ct 104 131 = some (.aload_n 1, 0, []) by decide +kernel) rfl,
  fun _ _ _ _ _ _ _ _ _ ht => WC_2 (show ct 104 132 = some (.invokespecial 77, 3, [81, 2, 2, 0, 0, 554, 555, 0]) by decide +kernel) (Nat.le_of_ble_eq_true rfl) (Nat.le_of_ble_eq_true rfl) rfl rfl ht,
  fun _ _ _ _ _ _ _ _ ht => WH_pR (show ct 104 135 = some (.putfield 78, 1, [11, 10, 2, 1, 584]) by decide +kernel) ht,
  fun _ _ _ _ _ => WR_v (show ct 104 138 = some (.return_, 2, [0]) by decide +kernel)⟩
/-- all of 104 -/
def w104_n : Nat := 2
/-! 105: FewBowls.feed(IIIII)I; loop heads [] -/
set_option maxRecDepth 10000 in
theorem w105 : (∀ (x0 : Nat) (x1 : Int32) (x2 : Int32) (x3 : Int32) (x4 : Int32) (x5 : Int32) (st : List Value) (h : AH) (Q : Option Value → AH → Prop), WP 105 0 [.ref x0, .int x1, .int x2, .int x3, .int x4, .int x5] (st) h Q ↔ WP 105 1 [.ref x0, .int x1, .int x2, .int x3, .int x4, .int x5] (.ref x0 :: st) h Q) ∧
  (∀ (x0 : Nat) (x1 : Int32) (x2 : Int32) (x3 : Int32) (x4 : Int32) (x5 : Int32) (y0 : Nat) (st : List Value) (h : AH) (Q : Option Value → AH → Prop) (ht : hT h y0 = 12), WP 105 1 [.ref x0, .int x1, .int x2, .int x3, .int x4, .int x5] (.ref y0 :: st) h Q ↔ WP 105 4 [.ref x0, .int x1, .int x2, .int x3, .int x4, .int x5] (.int (hI h y0 1) :: st) h Q) ∧
  (∀ (x0 : Nat) (x1 : Int32) (x2 : Int32) (x3 : Int32) (x4 : Int32) (x5 : Int32) (st : List Value) (h : AH) (Q : Option Value → AH → Prop), WP 105 4 [.ref x0, .int x1, .int x2, .int x3, .int x4, .int x5] (st) h Q ↔ WP 105 7 [.ref x0, .int x1, .int x2, .int x3, .int x4, .int x5] (.int (520) :: st) h Q) ∧
  (∀ (x0 : Nat) (x1 : Int32) (x2 : Int32) (x3 : Int32) (x4 : Int32) (x5 : Int32) (y0 : Int32) (y1 : Int32) (st : List Value) (h : AH) (Q : Option Value → AH → Prop), WP 105 7 [.ref x0, .int x1, .int x2, .int x3, .int x4, .int x5] (.int y0 :: .int y1 :: st) h Q ↔ ((y1 ≤ y0 → WP 105 12 [.ref x0, .int x1, .int x2, .int x3, .int x4, .int x5] (st) h Q) ∧ (¬ y1 ≤ y0 → WP 105 10 [.ref x0, .int x1, .int x2, .int x3, .int x4, .int x5] (st) h Q))) ∧
  (∀ (x0 : Nat) (x1 : Int32) (x2 : Int32) (x3 : Int32) (x4 : Int32) (x5 : Int32) (st : List Value) (h : AH) (Q : Option Value → AH → Prop), WP 105 10 [.ref x0, .int x1, .int x2, .int x3, .int x4, .int x5] (st) h Q ↔ WP 105 11 [.ref x0, .int x1, .int x2, .int x3, .int x4, .int x5] (.int (-1) :: st) h Q) ∧
  (∀ (x0 : Nat) (x1 : Int32) (x2 : Int32) (x3 : Int32) (x4 : Int32) (x5 : Int32) (y0 : Int32) (h : AH) (Q : Option Value → AH → Prop), WP 105 11 [.ref x0, .int x1, .int x2, .int x3, .int x4, .int x5] ([.int y0]) h Q ↔ Q (some (.int y0)) h) ∧
  (∀ (x0 : Nat) (x1 : Int32) (x2 : Int32) (x3 : Int32) (x4 : Int32) (x5 : Int32) (st : List Value) (h : AH) (Q : Option Value → AH → Prop), WP 105 12 [.ref x0, .int x1, .int x2, .int x3, .int x4, .int x5] (st) h Q ↔ WP 105 13 [.ref x0, .int x1, .int x2, .int x3, .int x4, .int x5] (.ref x0 :: st) h Q) ∧
  (∀ (x0 : Nat) (x1 : Int32) (x2 : Int32) (x3 : Int32) (x4 : Int32) (x5 : Int32) (st : List Value) (h : AH) (Q : Option Value → AH → Prop), WP 105 13 [.ref x0, .int x1, .int x2, .int x3, .int x4, .int x5] (st) h Q ↔ WP 105 14 [.ref x0, .int x1, .int x2, .int x3, .int x4, .int x5] (.int x1 :: st) h Q) ∧
  (∀ (x0 : Nat) (x1 : Int32) (x2 : Int32) (x3 : Int32) (x4 : Int32) (x5 : Int32) (y1 : Nat) (y0 : Int32) (h : AH) (Q : Option Value → AH → Prop) (ht : hT h y1 = 12), WP 105 14 [.ref x0, .int x1, .int x2, .int x3, .int x4, .int x5] ([.int y0, .ref y1]) h Q ↔ WPM 106 [.ref y1, .int y0] h (fun r h' => WP 105 17 [.ref x0, .int x1, .int x2, .int x3, .int x4, .int x5] (r.toList ++ []) h' Q)) ∧
  (∀ (x0 : Nat) (x1 : Int32) (x2 : Int32) (x3 : Int32) (x4 : Int32) (x5 : Int32) (st : List Value) (h : AH) (Q : Option Value → AH → Prop), WP 105 17 [.ref x0, .int x1, .int x2, .int x3, .int x4, .int x5] (st) h Q ↔ WP 105 18 [.ref x0, .int x1, .int x2, .int x3, .int x4, .int x5] (.ref x0 :: st) h Q) ∧
  (∀ (x0 : Nat) (x1 : Int32) (x2 : Int32) (x3 : Int32) (x4 : Int32) (x5 : Int32) (st : List Value) (h : AH) (Q : Option Value → AH → Prop), WP 105 18 [.ref x0, .int x1, .int x2, .int x3, .int x4, .int x5] (st) h Q ↔ WP 105 19 [.ref x0, .int x1, .int x2, .int x3, .int x4, .int x5] (.int x2 :: st) h Q) ∧
  (∀ (x0 : Nat) (x1 : Int32) (x2 : Int32) (x3 : Int32) (x4 : Int32) (x5 : Int32) (y1 : Nat) (y0 : Int32) (h : AH) (Q : Option Value → AH → Prop) (ht : hT h y1 = 12), WP 105 19 [.ref x0, .int x1, .int x2, .int x3, .int x4, .int x5] ([.int y0, .ref y1]) h Q ↔ WPM 106 [.ref y1, .int y0] h (fun r h' => WP 105 22 [.ref x0, .int x1, .int x2, .int x3, .int x4, .int x5] (r.toList ++ []) h' Q)) ∧
  (∀ (x0 : Nat) (x1 : Int32) (x2 : Int32) (x3 : Int32) (x4 : Int32) (x5 : Int32) (st : List Value) (h : AH) (Q : Option Value → AH → Prop), WP 105 22 [.ref x0, .int x1, .int x2, .int x3, .int x4, .int x5] (st) h Q ↔ WP 105 23 [.ref x0, .int x1, .int x2, .int x3, .int x4, .int x5] (.ref x0 :: st) h Q) ∧
  (∀ (x0 : Nat) (x1 : Int32) (x2 : Int32) (x3 : Int32) (x4 : Int32) (x5 : Int32) (st : List Value) (h : AH) (Q : Option Value → AH → Prop), WP 105 23 [.ref x0, .int x1, .int x2, .int x3, .int x4, .int x5] (st) h Q ↔ WP 105 24 [.ref x0, .int x1, .int x2, .int x3, .int x4, .int x5] (.int x3 :: st) h Q) ∧
  (∀ (x0 : Nat) (x1 : Int32) (x2 : Int32) (x3 : Int32) (x4 : Int32) (x5 : Int32) (y1 : Nat) (y0 : Int32) (h : AH) (Q : Option Value → AH → Prop) (ht : hT h y1 = 12), WP 105 24 [.ref x0, .int x1, .int x2, .int x3, .int x4, .int x5] ([.int y0, .ref y1]) h Q ↔ WPM 106 [.ref y1, .int y0] h (fun r h' => WP 105 27 [.ref x0, .int x1, .int x2, .int x3, .int x4, .int x5] (r.toList ++ []) h' Q)) ∧
  (∀ (x0 : Nat) (x1 : Int32) (x2 : Int32) (x3 : Int32) (x4 : Int32) (x5 : Int32) (st : List Value) (h : AH) (Q : Option Value → AH → Prop), WP 105 27 [.ref x0, .int x1, .int x2, .int x3, .int x4, .int x5] (st) h Q ↔ WP 105 28 [.ref x0, .int x1, .int x2, .int x3, .int x4, .int x5] (.ref x0 :: st) h Q) ∧
  (∀ (x0 : Nat) (x1 : Int32) (x2 : Int32) (x3 : Int32) (x4 : Int32) (x5 : Int32) (st : List Value) (h : AH) (Q : Option Value → AH → Prop), WP 105 28 [.ref x0, .int x1, .int x2, .int x3, .int x4, .int x5] (st) h Q ↔ WP 105 30 [.ref x0, .int x1, .int x2, .int x3, .int x4, .int x5] (.int x4 :: st) h Q) ∧
  (∀ (x0 : Nat) (x1 : Int32) (x2 : Int32) (x3 : Int32) (x4 : Int32) (x5 : Int32) (y1 : Nat) (y0 : Int32) (h : AH) (Q : Option Value → AH → Prop) (ht : hT h y1 = 12), WP 105 30 [.ref x0, .int x1, .int x2, .int x3, .int x4, .int x5] ([.int y0, .ref y1]) h Q ↔ WPM 106 [.ref y1, .int y0] h (fun r h' => WP 105 33 [.ref x0, .int x1, .int x2, .int x3, .int x4, .int x5] (r.toList ++ []) h' Q)) ∧
  (∀ (x0 : Nat) (x1 : Int32) (x2 : Int32) (x3 : Int32) (x4 : Int32) (x5 : Int32) (st : List Value) (h : AH) (Q : Option Value → AH → Prop), WP 105 33 [.ref x0, .int x1, .int x2, .int x3, .int x4, .int x5] (st) h Q ↔ WP 105 34 [.ref x0, .int x1, .int x2, .int x3, .int x4, .int x5] (.ref x0 :: st) h Q) ∧
  (∀ (x0 : Nat) (x1 : Int32) (x2 : Int32) (x3 : Int32) (x4 : Int32) (x5 : Int32) (st : List Value) (h : AH) (Q : Option Value → AH → Prop), WP 105 34 [.ref x0, .int x1, .int x2, .int x3, .int x4, .int x5] (st) h Q ↔ WP 105 36 [.ref x0, .int x1, .int x2, .int x3, .int x4, .int x5] (.int x5 :: st) h Q) ∧
  (∀ (x0 : Nat) (x1 : Int32) (x2 : Int32) (x3 : Int32) (x4 : Int32) (x5 : Int32) (y1 : Nat) (y0 : Int32) (h : AH) (Q : Option Value → AH → Prop) (ht : hT h y1 = 12), WP 105 36 [.ref x0, .int x1, .int x2, .int x3, .int x4, .int x5] ([.int y0, .ref y1]) h Q ↔ WPM 106 [.ref y1, .int y0] h (fun r h' => WP 105 39 [.ref x0, .int x1, .int x2, .int x3, .int x4, .int x5] (r.toList ++ []) h' Q)) ∧
  (∀ (x0 : Nat) (x1 : Int32) (x2 : Int32) (x3 : Int32) (x4 : Int32) (x5 : Int32) (st : List Value) (h : AH) (Q : Option Value → AH → Prop), WP 105 39 [.ref x0, .int x1, .int x2, .int x3, .int x4, .int x5] (st) h Q ↔ WP 105 40 [.ref x0, .int x1, .int x2, .int x3, .int x4, .int x5] (.ref x0 :: st) h Q) ∧
  (∀ (x0 : Nat) (x1 : Int32) (x2 : Int32) (x3 : Int32) (x4 : Int32) (x5 : Int32) (y0 : Nat) (st : List Value) (h : AH) (Q : Option Value → AH → Prop) (ht : hT h y0 = 12), WP 105 40 [.ref x0, .int x1, .int x2, .int x3, .int x4, .int x5] (.ref y0 :: st) h Q ↔ WP 105 43 [.ref x0, .int x1, .int x2, .int x3, .int x4, .int x5] (.int (hI h y0 1) :: st) h Q) ∧
  (∀ (x0 : Nat) (x1 : Int32) (x2 : Int32) (x3 : Int32) (x4 : Int32) (x5 : Int32) (y0 : Int32) (h : AH) (Q : Option Value → AH → Prop), WP 105 43 [.ref x0, .int x1, .int x2, .int x3, .int x4, .int x5] ([.int y0]) h Q ↔ Q (some (.int y0)) h) :=
  ⟨fun _ _ _ _ _ _ _ _ _ => WP_s (show ct 105 0 = some (.aload_n 0, 0, []) by decide +kernel) rfl,
  fun _ _ _ _ _ _ _ _ _ _ ht => WH_gI (show ct 105 1 = some (.getfield 82, 1, [11, 1, 0, 575]) by decide +kernel) (by decide) ht,
  fun _ _ _ _ _ _ _ _ _ => WP_s (show ct 105 4 = some (.sipush 520, 0, []) by decide +kernel) rfl,
  fun _ _ _ _ _ _ _ _ _ _ _ => WI_le (show ct 105 7 = some (.if_icmp .le 5, 0, [12]) by decide +kernel) (by decide),
  fun _ _ _ _ _ _ _ _ _ => WP_s (show ct 105 10 = some (.iconst (-1), 0, []) by decide +kernel) rfl,
  fun _ _ _ _ _ _ _ _ _ => WR_i (show ct 105 11 = some (.ireturn, 2, [0]) by decide +kernel),
  fun _ _ _ _ _ _ _ _ _ => WP_s (show ct 105 12 = some (.aload_n 0, 0, []) by decide +kernel) rfl,
  fun _ _ _ _ _ _ _ _ _ => WP_s (show ct 105 13 = some (.iload_n 1, 0, []) by decide +kernel) rfl,
  fun _ _ _ _ _ _ _ _ _ _ ht => WC_1 (show ct 105 14 = some (.invokevirtual 86, 3, [106, 2, 1, 12, 0, 612, 614, 0]) by decide +kernel) (Nat.le_of_ble_eq_true rfl) (Nat.le_of_ble_eq_true rfl) rfl rfl ht,
  fun _ _ _ _ _ _ _ _ _ => WP_s (show ct 105 17 = some (.aload_n 0, 0, []) by decide +kernel) rfl,
  fun _ _ _ _ _ _ _ _ _ => WP_s (show ct 105 18 = some (.iload_n 2, 0, []) by decide +kernel) rfl,
  fun _ _ _ _ _ _ _ _ _ _ ht => WC_1 (show ct 105 19 = some (.invokevirtual 86, 3, [106, 2, 1, 12, 0, 612, 614, 0]) by decide +kernel) (Nat.le_of_ble_eq_true rfl) (Nat.le_of_ble_eq_true rfl) rfl rfl ht,
  fun _ _ _ _ _ _ _ _ _ => WP_s (show ct 105 22 = some (.aload_n 0, 0, []) by decide +kernel) rfl,
  fun _ _ _ _ _ _ _ _ _ => WP_s (show ct 105 23 = some (.iload_n 3, 0, []) by decide +kernel) rfl,
  fun _ _ _ _ _ _ _ _ _ _ ht => WC_1 (show ct 105 24 = some (.invokevirtual 86, 3, [106, 2, 1, 12, 0, 612, 614, 0]) by decide +kernel) (Nat.le_of_ble_eq_true rfl) (Nat.le_of_ble_eq_true rfl) rfl rfl ht,
  fun _ _ _ _ _ _ _ _ _ => WP_s (show ct 105 27 = some (.aload_n 0, 0, []) by decide +kernel) rfl,
  fun _ _ _ _ _ _ _ _ _ => WP_s (show ct 105 28 = some (.iload 4, 0, []) by decide +kernel) rfl,
  fun _ _ _ _ _ _ _ _ _ _ ht => WC_1 (show ct 105 30 = some (.invokevirtual 86, 3, [106, 2, 1, 12, 0, 612, 614, 0]) by decide +kernel) (Nat.le_of_ble_eq_true rfl) (Nat.le_of_ble_eq_true rfl) rfl rfl ht,
  fun _ _ _ _ _ _ _ _ _ => WP_s (show ct 105 33 = some (.aload_n 0, 0, []) by decide +kernel) rfl,
  fun _ _ _ _ _ _ _ _ _ => WP_s (show ct 105 34 = some (.iload 5, 0, []) by decide +kernel) rfl,
  fun _ _ _ _ _ _ _ _ _ _ ht => WC_1 (show ct 105 36 = some (.invokevirtual 86, 3, [106, 2, 1, 12, 0, 612, 614, 0]) by decide +kernel) (Nat.le_of_ble_eq_true rfl) (Nat.le_of_ble_eq_true rfl) rfl rfl ht,
  fun _ _ _ _ _ _ _ _ _ => WP_s (show ct 105 39 = some (.aload_n 0, 0, []) by decide +kernel) rfl,
  fun _ _ _ _ _ _ _ _ _ _ ht => WH_gI (show ct 105 40 = some (.getfield 82, 1, [11, 1, 0, 575]) by decide +kernel) (by decide) ht,
  fun _ _ _ _ _ _ _ _ _ => WR_i (show ct 105 43 = some (.ireturn, 2, [0]) by decide +kernel)⟩
/-! 106: FewBowls.put(I)V; loop heads [3] -/
theorem w106_3 : ∀ (x0 : Nat) (x1 : Int32) (x2 : Int32) (st : List Value) (h : AH) (Q : Option Value → AH → Prop), WP 106 3 [.ref x0, .int x1, .int x2] (st) h Q ↔ WP 106 4 [.ref x0, .int x1, .int x2] (.int x2 :: st) h Q := fun _ _ _ _ _ _ => WP_s (show ct 106 3 = some (.iload_n 2, 0, []) by decide +kernel) rfl
set_option maxRecDepth 10000 in
theorem w106 : (∀ (x0 : Nat) (x1 : Int32) (st : List Value) (h : AH) (Q : Option Value → AH → Prop), WP 106 0 [.ref x0, .int x1, .retAddr 0] (st) h Q ↔ WP 106 2 [.ref x0, .int x1, .retAddr 0] (.int (24) :: st) h Q) ∧
  (∀ (x0 : Nat) (x1 : Int32) (y0 : Int32) (st : List Value) (h : AH) (Q : Option Value → AH → Prop), WP 106 2 [.ref x0, .int x1, .retAddr 0] (.int y0 :: st) h Q ↔ WP 106 3 [.ref x0, .int x1, .int y0] (st) h Q) ∧
  (∀ (x0 : Nat) (x1 : Int32) (x2 : Int32) (y0 : Int32) (st : List Value) (h : AH) (Q : Option Value → AH → Prop), WP 106 4 [.ref x0, .int x1, .int x2] (.int y0 :: st) h Q ↔ ((y0 < 0 → WP 106 46 [.ref x0, .int x1, .int x2] (st) h Q) ∧ (¬ y0 < 0 → WP 106 7 [.ref x0, .int x1, .int x2] (st) h Q))) ∧
  (∀ (x0 : Nat) (x1 : Int32) (x2 : Int32) (st : List Value) (h : AH) (Q : Option Value → AH → Prop), WP 106 7 [.ref x0, .int x1, .int x2] (st) h Q ↔ WP 106 8 [.ref x0, .int x1, .int x2] (.ref x0 :: st) h Q) ∧
  (∀ (x0 : Nat) (x1 : Int32) (x2 : Int32) (y0 : Nat) (st : List Value) (h : AH) (Q : Option Value → AH → Prop) (ht : hT h y0 = 12), WP 106 8 [.ref x0, .int x1, .int x2] (.ref y0 :: st) h Q ↔ WP 106 11 [.ref x0, .int x1, .int x2] (.int (hI h y0 1) :: st) h Q) ∧
  (∀ (x0 : Nat) (x1 : Int32) (x2 : Int32) (st : List Value) (h : AH) (Q : Option Value → AH → Prop), WP 106 11 [.ref x0, .int x1, .int x2] (st) h Q ↔ WP 106 14 [.ref x0, .int x1, .int x2] (.int (540) :: st) h Q) ∧
  (∀ (x0 : Nat) (x1 : Int32) (x2 : Int32) (y0 : Int32) (y1 : Int32) (st : List Value) (h : AH) (Q : Option Value → AH → Prop), WP 106 14 [.ref x0, .int x1, .int x2] (.int y0 :: .int y1 :: st) h Q ↔ ((y0 ≤ y1 → WP 106 46 [.ref x0, .int x1, .int x2] (st) h Q) ∧ (¬ y0 ≤ y1 → WP 106 17 [.ref x0, .int x1, .int x2] (st) h Q))) ∧
  (∀ (x0 : Nat) (x1 : Int32) (x2 : Int32) (st : List Value) (h : AH) (Q : Option Value → AH → Prop), WP 106 17 [.ref x0, .int x1, .int x2] (st) h Q ↔ WP 106 18 [.ref x0, .int x1, .int x2] (.ref x0 :: st) h Q) ∧
  (∀ (x0 : Nat) (x1 : Int32) (x2 : Int32) (y0 : Nat) (st : List Value) (h : AH) (Q : Option Value → AH → Prop) (ht : hT h y0 = 12), WP 106 18 [.ref x0, .int x1, .int x2] (.ref y0 :: st) h Q ↔ WP 106 21 [.ref x0, .int x1, .int x2] (.ref (hR h y0 0) :: st) h Q) ∧
  (∀ (x0 : Nat) (x1 : Int32) (x2 : Int32) (st : List Value) (h : AH) (Q : Option Value → AH → Prop), WP 106 21 [.ref x0, .int x1, .int x2] (st) h Q ↔ WP 106 22 [.ref x0, .int x1, .int x2] (.ref x0 :: st) h Q) ∧
  (∀ (x0 : Nat) (x1 : Int32) (x2 : Int32) (y0 : Nat) (st : List Value) (h : AH) (Q : Option Value → AH → Prop) (ht : hT h y0 = 12), WP 106 22 [.ref x0, .int x1, .int x2] (.ref y0 :: st) h Q ↔ WP 106 25 [.ref x0, .int x1, .int x2] (.int (hI h y0 1) :: st) h Q) ∧
  (∀ (x0 : Nat) (x1 : Int32) (x2 : Int32) (st : List Value) (h : AH) (Q : Option Value → AH → Prop), WP 106 25 [.ref x0, .int x1, .int x2] (st) h Q ↔ WP 106 26 [.ref x0, .int x1, .int x2] (.int x1 :: st) h Q) ∧
  (∀ (x0 : Nat) (x1 : Int32) (x2 : Int32) (st : List Value) (h : AH) (Q : Option Value → AH → Prop), WP 106 26 [.ref x0, .int x1, .int x2] (st) h Q ↔ WP 106 27 [.ref x0, .int x1, .int x2] (.int x2 :: st) h Q) ∧
  (∀ (x0 : Nat) (x1 : Int32) (x2 : Int32) (y0 : Int32) (y1 : Int32) (st : List Value) (h : AH) (Q : Option Value → AH → Prop), WP 106 27 [.ref x0, .int x1, .int x2] (.int y0 :: .int y1 :: st) h Q ↔ WP 106 28 [.ref x0, .int x1, .int x2] (.int (y1 >>> (y0 &&& 31)) :: st) h Q) ∧
  (∀ (x0 : Nat) (x1 : Int32) (x2 : Int32) (y0 : Int32) (st : List Value) (h : AH) (Q : Option Value → AH → Prop), WP 106 28 [.ref x0, .int x1, .int x2] (.int y0 :: st) h Q ↔ WP 106 29 [.ref x0, .int x1, .int x2] (.int y0.toInt8.toInt32 :: st) h Q) ∧
  (∀ (x0 : Nat) (x1 : Int32) (x2 : Int32) (y0 : Int32) (y1 : Int32) (y2 : Nat) (st : List Value) (h : AH) (Q : Option Value → AH → Prop) (ht : hT h y2 = 101) (hi : inb y1 (hL h y2) = true), WP 106 29 [.ref x0, .int x1, .int x2] (.int y0 :: .int y1 :: .ref y2 :: st) h Q ↔ WP 106 30 [.ref x0, .int x1, .int x2] (st) (sI h y2 y1.toNatClampNeg y0.toInt8.toInt32) Q) ∧
  (∀ (x0 : Nat) (x1 : Int32) (x2 : Int32) (y0 : Int32) (y1 : Int32) (y2 : Nat) (st : List Value) (h : AH) (Q : Option Value → AH → Prop) (ht : hT h y2 = 102) (hi : inb y1 (hL h y2) = true), WP 106 29 [.ref x0, .int x1, .int x2] (.int y0 :: .int y1 :: .ref y2 :: st) h Q ↔ WP 106 30 [.ref x0, .int x1, .int x2] (st) (sI h y2 y1.toNatClampNeg (y0 &&& 1)) Q) ∧
  (∀ (x0 : Nat) (x1 : Int32) (x2 : Int32) (st : List Value) (h : AH) (Q : Option Value → AH → Prop), WP 106 30 [.ref x0, .int x1, .int x2] (st) h Q ↔ WP 106 31 [.ref x0, .int x1, .int x2] (.ref x0 :: st) h Q) ∧
  (∀ (x0 : Nat) (x1 : Int32) (x2 : Int32) (y0 : Nat) (st : List Value) (h : AH) (Q : Option Value → AH → Prop), WP 106 31 [.ref x0, .int x1, .int x2] (.ref y0 :: st) h Q ↔ WP 106 32 [.ref x0, .int x1, .int x2] (.ref y0 :: .ref y0 :: st) h Q) ∧
  (∀ (x0 : Nat) (x1 : Int32) (x2 : Int32) (y0 : Nat) (st : List Value) (h : AH) (Q : Option Value → AH → Prop) (ht : hT h y0 = 12), WP 106 32 [.ref x0, .int x1, .int x2] (.ref y0 :: st) h Q ↔ WP 106 35 [.ref x0, .int x1, .int x2] (.int (hI h y0 1) :: st) h Q) ∧
  (∀ (x0 : Nat) (x1 : Int32) (x2 : Int32) (st : List Value) (h : AH) (Q : Option Value → AH → Prop), WP 106 35 [.ref x0, .int x1, .int x2] (st) h Q ↔ WP 106 36 [.ref x0, .int x1, .int x2] (.int (1) :: st) h Q) ∧
  (∀ (x0 : Nat) (x1 : Int32) (x2 : Int32) (y0 : Int32) (y1 : Int32) (st : List Value) (h : AH) (Q : Option Value → AH → Prop), WP 106 36 [.ref x0, .int x1, .int x2] (.int y0 :: .int y1 :: st) h Q ↔ WP 106 37 [.ref x0, .int x1, .int x2] (.int (y1 + y0) :: st) h Q) ∧
  (∀ (x0 : Nat) (x1 : Int32) (x2 : Int32) (y0 : Int32) (y1 : Nat) (st : List Value) (h : AH) (Q : Option Value → AH → Prop) (ht : hT h y1 = 12), WP 106 37 [.ref x0, .int x1, .int x2] (.int y0 :: .ref y1 :: st) h Q ↔ WP 106 40 [.ref x0, .int x1, .int x2] (st) (sI h y1 1 y0) Q) ∧
  (∀ (x0 : Nat) (x1 : Int32) (x2 : Int32) (st : List Value) (h : AH) (Q : Option Value → AH → Prop), WP 106 40 [.ref x0, .int x1, .int x2] (st) h Q ↔ WP 106 43 [.ref x0, .int x1, .int (x2 + (-8))] (st) h Q) ∧
  (∀ (x0 : Nat) (x1 : Int32) (x2 : Int32) (st : List Value) (h : AH) (Q : Option Value → AH → Prop), WP 106 43 [.ref x0, .int x1, .int x2] (st) h Q ↔ WP 106 3 [.ref x0, .int x1, .int x2] (st) h Q) ∧
  (∀ (x0 : Nat) (x1 : Int32) (x2 : Int32) (h : AH) (Q : Option Value → AH → Prop), WP 106 46 [.ref x0, .int x1, .int x2] ([]) h Q ↔ Q none h) :=
  ⟨fun _ _ _ _ _ => WP_s (show ct 106 0 = some (.bipush 24, 0, []) by decide +kernel) rfl,
  fun _ _ _ _ _ _ => WP_s (show ct 106 2 = some (.istore_n 2, 0, []) by decide +kernel) rfl,
  fun _ _ _ _ _ _ _ => WZ_lt (show ct 106 4 = some (.ifCond .lt 42, 0, [46]) by decide +kernel) (by decide),
  fun _ _ _ _ _ _ => WP_s (show ct 106 7 = some (.aload_n 0, 0, []) by decide +kernel) rfl,
  fun _ _ _ _ _ _ _ ht => WH_gI (show ct 106 8 = some (.getfield 82, 1, [11, 1, 0, 575]) by decide +kernel) (by decide) ht,
  fun _ _ _ _ _ _ => WP_s (show ct 106 11 = some (.sipush 540, 0, []) by decide +kernel) rfl,
  fun _ _ _ _ _ _ _ _ => WI_ge (show ct 106 14 = some (.if_icmp .ge 32, 0, [46]) by decide +kernel) (by decide),
  fun _ _ _ _ _ _ => WP_s (show ct 106 17 = some (.aload_n 0, 0, []) by decide +kernel) rfl,
  fun _ _ _ _ _ _ _ ht => WH_gR (show ct 106 18 = some (.getfield 9, 1, [11, 0, 2, 574]) by decide +kernel) ht,
  fun _ _ _ _ _ _ => WP_s (show ct 106 21 = some (.aload_n 0, 0, []) by decide +kernel) rfl,
  fun _ _ _ _ _ _ _ ht => WH_gI (show ct 106 22 = some (.getfield 82, 1, [11, 1, 0, 575]) by decide +kernel) (by decide) ht,
  fun _ _ _ _ _ _ => WP_s (show ct 106 25 = some (.iload_n 1, 0, []) by decide +kernel) rfl,
  fun _ _ _ _ _ _ => WP_s (show ct 106 26 = some (.iload_n 2, 0, []) by decide +kernel) rfl,
  fun _ _ _ _ _ _ _ _ => WP_s (show ct 106 27 = some (.ishr, 0, []) by decide +kernel) rfl,
  fun _ _ _ _ _ _ _ => WP_s (show ct 106 28 = some (.i2b, 0, []) by decide +kernel) rfl,
  fun _ _ _ _ _ _ _ _ _ ht hi => WH_bast (show ct 106 29 = some (.bastore, 1, []) by decide +kernel) ht hi,
  fun _ _ _ _ _ _ _ _ _ ht hi => WH_zast (show ct 106 29 = some (.bastore, 1, []) by decide +kernel) ht hi,
  fun _ _ _ _ _ _ => WP_s (show ct 106 30 = some (.aload_n 0, 0, []) by decide +kernel) rfl,
  fun _ _ _ _ _ _ _ => WP_s (show ct 106 31 = some (.dup, 0, []) by decide +kernel) rfl,
  fun _ _ _ _ _ _ _ ht => WH_gI (show ct 106 32 = some (.getfield 82, 1, [11, 1, 0, 575]) by decide +kernel) (by decide) ht,
  fun _ _ _ _ _ _ => WP_s (show ct 106 35 = some (.iconst 1, 0, []) by decide +kernel) rfl,
  fun _ _ _ _ _ _ _ _ => WP_s (show ct 106 36 = some (.iadd, 0, []) by decide +kernel) rfl,
  fun _ _ _ _ _ _ _ _ ht => WH_pI (show ct 106 37 = some (.putfield 82, 1, [11, 1, 0, 0, 575]) by decide +kernel) ht,
  fun _ _ _ _ _ _ => WP_s (show ct 106 40 = some (.iinc 2 (-8), 0, []) by decide +kernel) rfl,
  fun _ _ _ _ _ _ => WP_s (show ct 106 43 = some (.goto (-40), 0, [3]) by decide +kernel) rfl,
  fun _ _ _ _ _ => WR_v (show ct 106 46 = some (.return_, 2, [0]) by decide +kernel)⟩
/-! 107: FewBowls.end(I)Z; loop heads [] -/
set_option maxRecDepth 10000 in
theorem w107 : (∀ (x0 : Nat) (x1 : Int32) (st : List Value) (h : AH) (Q : Option Value → AH → Prop), WP 107 0 [.ref x0, .int x1] (st) h Q ↔ WP 107 1 [.ref x0, .int x1] (.int x1 :: st) h Q) ∧
  (∀ (x0 : Nat) (x1 : Int32) (y0 : Int32) (st : List Value) (h : AH) (Q : Option Value → AH → Prop), WP 107 1 [.ref x0, .int x1] (.int y0 :: st) h Q ↔ ((y0 < 0 → WP 107 12 [.ref x0, .int x1] (st) h Q) ∧ (¬ y0 < 0 → WP 107 4 [.ref x0, .int x1] (st) h Q))) ∧
  (∀ (x0 : Nat) (x1 : Int32) (st : List Value) (h : AH) (Q : Option Value → AH → Prop), WP 107 4 [.ref x0, .int x1] (st) h Q ↔ WP 107 5 [.ref x0, .int x1] (.int x1 :: st) h Q) ∧
  (∀ (x0 : Nat) (x1 : Int32) (st : List Value) (h : AH) (Q : Option Value → AH → Prop), WP 107 5 [.ref x0, .int x1] (st) h Q ↔ WP 107 6 [.ref x0, .int x1] (.ref x0 :: st) h Q) ∧
  (∀ (x0 : Nat) (x1 : Int32) (y0 : Nat) (st : List Value) (h : AH) (Q : Option Value → AH → Prop) (ht : hT h y0 = 12), WP 107 6 [.ref x0, .int x1] (.ref y0 :: st) h Q ↔ WP 107 9 [.ref x0, .int x1] (.int (hI h y0 1) :: st) h Q) ∧
  (∀ (x0 : Nat) (x1 : Int32) (y0 : Int32) (y1 : Int32) (st : List Value) (h : AH) (Q : Option Value → AH → Prop), WP 107 9 [.ref x0, .int x1] (.int y0 :: .int y1 :: st) h Q ↔ ((y1 ≤ y0 → WP 107 14 [.ref x0, .int x1] (st) h Q) ∧ (¬ y1 ≤ y0 → WP 107 12 [.ref x0, .int x1] (st) h Q))) ∧
  (∀ (x0 : Nat) (x1 : Int32) (st : List Value) (h : AH) (Q : Option Value → AH → Prop), WP 107 12 [.ref x0, .int x1] (st) h Q ↔ WP 107 13 [.ref x0, .int x1] (.int (0) :: st) h Q) ∧
  (∀ (x0 : Nat) (x1 : Int32) (y0 : Int32) (h : AH) (Q : Option Value → AH → Prop) (hz : y0 = 0 ∨ y0 = 1), WP 107 13 [.ref x0, .int x1] ([.int y0]) h Q ↔ Q (some (.int y0)) h) ∧
  (∀ (x0 : Nat) (x1 : Int32) (st : List Value) (h : AH) (Q : Option Value → AH → Prop), WP 107 14 [.ref x0, .int x1] (st) h Q ↔ WP 107 15 [.ref x0, .int x1] (.ref x0 :: st) h Q) ∧
  (∀ (x0 : Nat) (x1 : Int32) (st : List Value) (h : AH) (Q : Option Value → AH → Prop), WP 107 15 [.ref x0, .int x1] (st) h Q ↔ WP 107 16 [.ref x0, .int x1] (.int x1 :: st) h Q) ∧
  (∀ (x0 : Nat) (x1 : Int32) (y0 : Int32) (y1 : Nat) (st : List Value) (h : AH) (Q : Option Value → AH → Prop) (ht : hT h y1 = 12), WP 107 16 [.ref x0, .int x1] (.int y0 :: .ref y1 :: st) h Q ↔ WP 107 19 [.ref x0, .int x1] (st) (sI h y1 1 y0) Q) ∧
  (∀ (x0 : Nat) (x1 : Int32) (st : List Value) (h : AH) (Q : Option Value → AH → Prop), WP 107 19 [.ref x0, .int x1] (st) h Q ↔ WP 107 20 [.ref x0, .int x1] (.int (1) :: st) h Q) ∧
  (∀ (x0 : Nat) (x1 : Int32) (y0 : Int32) (h : AH) (Q : Option Value → AH → Prop) (hz : y0 = 0 ∨ y0 = 1), WP 107 20 [.ref x0, .int x1] ([.int y0]) h Q ↔ Q (some (.int y0)) h) :=
  ⟨fun _ _ _ _ _ => WP_s (show ct 107 0 = some (.iload_n 1, 0, []) by decide +kernel) rfl,
  fun _ _ _ _ _ _ => WZ_lt (show ct 107 1 = some (.ifCond .lt 11, 0, [12]) by decide +kernel) (by decide),
  fun _ _ _ _ _ => WP_s (show ct 107 4 = some (.iload_n 1, 0, []) by decide +kernel) rfl,
  fun _ _ _ _ _ => WP_s (show ct 107 5 = some (.aload_n 0, 0, []) by decide +kernel) rfl,
  fun _ _ _ _ _ _ ht => WH_gI (show ct 107 6 = some (.getfield 82, 1, [11, 1, 0, 575]) by decide +kernel) (by decide) ht,
  fun _ _ _ _ _ _ _ => WI_le (show ct 107 9 = some (.if_icmp .le 5, 0, [14]) by decide +kernel) (by decide),
  fun _ _ _ _ _ => WP_s (show ct 107 12 = some (.iconst 0, 0, []) by decide +kernel) rfl,
  fun _ _ _ _ _ hz => WR_z (show ct 107 13 = some (.ireturn, 2, [1]) by decide +kernel) hz,
  fun _ _ _ _ _ => WP_s (show ct 107 14 = some (.aload_n 0, 0, []) by decide +kernel) rfl,
  fun _ _ _ _ _ => WP_s (show ct 107 15 = some (.iload_n 1, 0, []) by decide +kernel) rfl,
  fun _ _ _ _ _ _ _ ht => WH_pI (show ct 107 16 = some (.putfield 82, 1, [11, 1, 0, 0, 575]) by decide +kernel) ht,
  fun _ _ _ _ _ => WP_s (show ct 107 19 = some (.iconst 1, 0, []) by decide +kernel) rfl,
  fun _ _ _ _ _ hz => WR_z (show ct 107 20 = some (.ireturn, 2, [1]) by decide +kernel) hz⟩
/-! 108: FewBowls.net()I; loop heads [] -/
set_option maxRecDepth 10000 in
theorem w108 : (∀ (x0 : Nat) (st : List Value) (h : AH) (Q : Option Value → AH → Prop), WP 108 0 [.ref x0, .retAddr 0, .retAddr 0] (st) h Q ↔ WP 108 1 [.ref x0, .retAddr 0, .retAddr 0] (.ref x0 :: st) h Q) ∧
  (∀ (x0 : Nat) (y0 : Nat) (st : List Value) (h : AH) (Q : Option Value → AH → Prop) (ht : hT h y0 = 12), WP 108 1 [.ref x0, .retAddr 0, .retAddr 0] (.ref y0 :: st) h Q ↔ WP 108 4 [.ref x0, .retAddr 0, .retAddr 0] (.ref (hR h y0 4) :: st) h Q) ∧
  (∀ (x0 : Nat) (st : List Value) (h : AH) (Q : Option Value → AH → Prop), WP 108 4 [.ref x0, .retAddr 0, .retAddr 0] (st) h Q ↔ WP 108 5 [.ref x0, .retAddr 0, .retAddr 0] (.ref x0 :: st) h Q) ∧
  (∀ (x0 : Nat) (y0 : Nat) (st : List Value) (h : AH) (Q : Option Value → AH → Prop) (ht : hT h y0 = 12), WP 108 5 [.ref x0, .retAddr 0, .retAddr 0] (.ref y0 :: st) h Q ↔ WP 108 8 [.ref x0, .retAddr 0, .retAddr 0] (.ref (hR h y0 0) :: st) h Q) ∧
  (∀ (x0 : Nat) (st : List Value) (h : AH) (Q : Option Value → AH → Prop), WP 108 8 [.ref x0, .retAddr 0, .retAddr 0] (st) h Q ↔ WP 108 9 [.ref x0, .retAddr 0, .retAddr 0] (.ref x0 :: st) h Q) ∧
  (∀ (x0 : Nat) (y2 : Nat) (y1 : Nat) (y0 : Nat) (h : AH) (Q : Option Value → AH → Prop) (ht : hT h y0 = 12), WP 108 9 [.ref x0, .retAddr 0, .retAddr 0] ([.ref y0, .ref y1, .ref y2]) h Q ↔ WPM 109 [.ref y0] h (fun r h' => WP 108 12 [.ref x0, .retAddr 0, .retAddr 0] (r.toList ++ [.ref y1, .ref y2]) h' Q)) ∧
  (∀ (x0 : Nat) (st : List Value) (h : AH) (Q : Option Value → AH → Prop), WP 108 12 [.ref x0, .retAddr 0, .retAddr 0] (st) h Q ↔ WP 108 13 [.ref x0, .retAddr 0, .retAddr 0] (.ref x0 :: st) h Q) ∧
  (∀ (x0 : Nat) (y0 : Nat) (st : List Value) (h : AH) (Q : Option Value → AH → Prop) (ht : hT h y0 = 12), WP 108 13 [.ref x0, .retAddr 0, .retAddr 0] (.ref y0 :: st) h Q ↔ WP 108 16 [.ref x0, .retAddr 0, .retAddr 0] (.ref (hR h y0 3) :: st) h Q) ∧
  (∀ (x0 : Nat) (y3 : Nat) (y2 : Nat) (y1 : Int32) (y0 : Nat) (h : AH) (Q : Option Value → AH → Prop) (ht : hT h y3 = 8), WP 108 16 [.ref x0, .retAddr 0, .retAddr 0] ([.ref y0, .int y1, .ref y2, .ref y3]) h Q ↔ WPM 66 [.ref y3, .ref y2, .int y1, .ref y0] h (fun r h' => WP 108 19 [.ref x0, .retAddr 0, .retAddr 0] (r.toList ++ []) h' Q)) ∧
  (∀ (x0 : Nat) (y0 : Int32) (st : List Value) (h : AH) (Q : Option Value → AH → Prop), WP 108 19 [.ref x0, .retAddr 0, .retAddr 0] (.int y0 :: st) h Q ↔ WP 108 20 [.ref x0, .int y0, .retAddr 0] (st) h Q) ∧
  (∀ (x0 : Nat) (x1 : Int32) (st : List Value) (h : AH) (Q : Option Value → AH → Prop), WP 108 20 [.ref x0, .int x1, .retAddr 0] (st) h Q ↔ WP 108 21 [.ref x0, .int x1, .retAddr 0] (.int x1 :: st) h Q) ∧
  (∀ (x0 : Nat) (x1 : Int32) (y0 : Int32) (st : List Value) (h : AH) (Q : Option Value → AH → Prop), WP 108 21 [.ref x0, .int x1, .retAddr 0] (.int y0 :: st) h Q ↔ ((¬ y0 = 0 → WP 108 34 [.ref x0, .int x1, .retAddr 0] (st) h Q) ∧ (y0 = 0 → WP 108 24 [.ref x0, .int x1, .retAddr 0] (st) h Q))) ∧
  (∀ (x0 : Nat) (x1 : Int32) (st : List Value) (h : AH) (Q : Option Value → AH → Prop), WP 108 24 [.ref x0, .int x1, .retAddr 0] (st) h Q ↔ WP 108 25 [.ref x0, .int x1, .retAddr 0] (.int (-1) :: st) h Q) ∧
  (∀ (x0 : Nat) (x1 : Int32) (st : List Value) (h : AH) (Q : Option Value → AH → Prop), WP 108 25 [.ref x0, .int x1, .retAddr 0] (st) h Q ↔ WP 108 26 [.ref x0, .int x1, .retAddr 0] (.ref x0 :: st) h Q) ∧
  (∀ (x0 : Nat) (x1 : Int32) (y0 : Nat) (st : List Value) (h : AH) (Q : Option Value → AH → Prop) (ht : hT h y0 = 12), WP 108 26 [.ref x0, .int x1, .retAddr 0] (.ref y0 :: st) h Q ↔ WP 108 29 [.ref x0, .int x1, .retAddr 0] (.ref (hR h y0 4) :: st) h Q) ∧
  (∀ (x0 : Nat) (x1 : Int32) (y0 : Nat) (st : List Value) (h : AH) (Q : Option Value → AH → Prop) (ht : hT h y0 = 8), WP 108 29 [.ref x0, .int x1, .retAddr 0] (.ref y0 :: st) h Q ↔ WP 108 32 [.ref x0, .int x1, .retAddr 0] (.int (hI h y0 4) :: st) h Q) ∧
  (∀ (x0 : Nat) (x1 : Int32) (y0 : Int32) (y1 : Int32) (st : List Value) (h : AH) (Q : Option Value → AH → Prop), WP 108 32 [.ref x0, .int x1, .retAddr 0] (.int y0 :: .int y1 :: st) h Q ↔ WP 108 33 [.ref x0, .int x1, .retAddr 0] (.int (y1 - y0) :: st) h Q) ∧
  (∀ (x0 : Nat) (x1 : Int32) (y0 : Int32) (h : AH) (Q : Option Value → AH → Prop), WP 108 33 [.ref x0, .int x1, .retAddr 0] ([.int y0]) h Q ↔ Q (some (.int y0)) h) ∧
  (∀ (x0 : Nat) (x1 : Int32) (st : List Value) (h : AH) (Q : Option Value → AH → Prop), WP 108 34 [.ref x0, .int x1, .retAddr 0] (st) h Q ↔ WP 108 35 [.ref x0, .int x1, .retAddr 0] (.ref x0 :: st) h Q) ∧
  (∀ (x0 : Nat) (x1 : Int32) (y0 : Nat) (st : List Value) (h : AH) (Q : Option Value → AH → Prop) (ht : hT h y0 = 12), WP 108 35 [.ref x0, .int x1, .retAddr 0] (.ref y0 :: st) h Q ↔ WP 108 38 [.ref x0, .int x1, .retAddr 0] (.ref (hR h y0 2) :: st) h Q) ∧
  (∀ (x0 : Nat) (x1 : Int32) (y0 : Nat) (st : List Value) (h : AH) (Q : Option Value → AH → Prop), WP 108 38 [.ref x0, .int x1, .retAddr 0] (.ref y0 :: st) h Q ↔ WP 108 39 [.ref x0, .int x1, .ref y0] (st) h Q) ∧
  (∀ (x0 : Nat) (x1 : Int32) (x2 : Nat) (st : List Value) (h : AH) (Q : Option Value → AH → Prop), WP 108 39 [.ref x0, .int x1, .ref x2] (st) h Q ↔ WP 108 40 [.ref x0, .int x1, .ref x2] (.ref x0 :: st) h Q) ∧
  (∀ (x0 : Nat) (x1 : Int32) (x2 : Nat) (st : List Value) (h : AH) (Q : Option Value → AH → Prop), WP 108 40 [.ref x0, .int x1, .ref x2] (st) h Q ↔ WP 108 41 [.ref x0, .int x1, .ref x2] (.ref x0 :: st) h Q) ∧
  (∀ (x0 : Nat) (x1 : Int32) (x2 : Nat) (y0 : Nat) (st : List Value) (h : AH) (Q : Option Value → AH → Prop) (ht : hT h y0 = 12), WP 108 41 [.ref x0, .int x1, .ref x2] (.ref y0 :: st) h Q ↔ WP 108 44 [.ref x0, .int x1, .ref x2] (.ref (hR h y0 3) :: st) h Q) ∧
  (∀ (x0 : Nat) (x1 : Int32) (x2 : Nat) (y0 : Nat) (y1 : Nat) (st : List Value) (h : AH) (Q : Option Value → AH → Prop) (ht : hT h y1 = 12), WP 108 44 [.ref x0, .int x1, .ref x2] (.ref y0 :: .ref y1 :: st) h Q ↔ WP 108 47 [.ref x0, .int x1, .ref x2] (st) (sR h y1 2 y0) Q) ∧
  (∀ (x0 : Nat) (x1 : Int32) (x2 : Nat) (st : List Value) (h : AH) (Q : Option Value → AH → Prop), WP 108 47 [.ref x0, .int x1, .ref x2] (st) h Q ↔ WP 108 48 [.ref x0, .int x1, .ref x2] (.ref x0 :: st) h Q) ∧
  (∀ (x0 : Nat) (x1 : Int32) (x2 : Nat) (st : List Value) (h : AH) (Q : Option Value → AH → Prop), WP 108 48 [.ref x0, .int x1, .ref x2] (st) h Q ↔ WP 108 49 [.ref x0, .int x1, .ref x2] (.ref x2 :: st) h Q) ∧
  (∀ (x0 : Nat) (x1 : Int32) (x2 : Nat) (y0 : Nat) (y1 : Nat) (st : List Value) (h : AH) (Q : Option Value → AH → Prop) (ht : hT h y1 = 12), WP 108 49 [.ref x0, .int x1, .ref x2] (.ref y0 :: .ref y1 :: st) h Q ↔ WP 108 52 [.ref x0, .int x1, .ref x2] (st) (sR h y1 3 y0) Q) ∧
  (∀ (x0 : Nat) (x1 : Int32) (x2 : Nat) (st : List Value) (h : AH) (Q : Option Value → AH → Prop), WP 108 52 [.ref x0, .int x1, .ref x2] (st) h Q ↔ WP 108 53 [.ref x0, .int x1, .ref x2] (.ref x0 :: st) h Q) ∧
  (∀ (x0 : Nat) (x1 : Int32) (x2 : Nat) (y0 : Nat) (st : List Value) (h : AH) (Q : Option Value → AH → Prop) (ht : hT h y0 = 12), WP 108 53 [.ref x0, .int x1, .ref x2] (.ref y0 :: st) h Q ↔ WP 108 56 [.ref x0, .int x1, .ref x2] (.ref (hR h y0 6) :: st) h Q) ∧
  (∀ (x0 : Nat) (x1 : Int32) (x2 : Nat) (y0 : Nat) (h : AH) (Q : Option Value → AH → Prop) (ht : hT h y0 = 7), WP 108 56 [.ref x0, .int x1, .ref x2] ([.ref y0]) h Q ↔ WPM 51 [.ref y0] h (fun r h' => WP 108 59 [.ref x0, .int x1, .ref x2] (r.toList ++ []) h' Q)) ∧
  (∀ (x0 : Nat) (x1 : Int32) (x2 : Nat) (st : List Value) (h : AH) (Q : Option Value → AH → Prop), WP 108 59 [.ref x0, .int x1, .ref x2] (st) h Q ↔ WP 108 60 [.ref x0, .int x1, .ref x2] (.ref x0 :: st) h Q) ∧
  (∀ (x0 : Nat) (x1 : Int32) (x2 : Nat) (y0 : Nat) (st : List Value) (h : AH) (Q : Option Value → AH → Prop) (ht : hT h y0 = 12), WP 108 60 [.ref x0, .int x1, .ref x2] (.ref y0 :: st) h Q ↔ WP 108 63 [.ref x0, .int x1, .ref x2] (.ref (hR h y0 2) :: st) h Q) ∧
  (∀ (x0 : Nat) (x1 : Int32) (x2 : Nat) (y0 : Nat) (st : List Value) (h : AH) (Q : Option Value → AH → Prop) (ht : hT h y0 = 4), WP 108 63 [.ref x0, .int x1, .ref x2] (.ref y0 :: st) h Q ↔ WP 108 66 [.ref x0, .int x1, .ref x2] (.int (hI h y0 0) :: st) h Q) ∧
  (∀ (x0 : Nat) (x1 : Int32) (x2 : Nat) (y0 : Int32) (h : AH) (Q : Option Value → AH → Prop), WP 108 66 [.ref x0, .int x1, .ref x2] ([.int y0]) h Q ↔ Q (some (.int y0)) h) :=
  ⟨fun _ _ _ _ => WP_s (show ct 108 0 = some (.aload_n 0, 0, []) by decide +kernel) rfl,
  fun _ _ _ _ _ ht => WH_gR (show ct 108 1 = some (.getfield 26, 1, [11, 4, 2, 578]) by decide +kernel) ht,
  fun _ _ _ _ => WP_s (show ct 108 4 = some (.aload_n 0, 0, []) by decide +kernel) rfl,
  fun _ _ _ _ _ ht => WH_gR (show ct 108 5 = some (.getfield 9, 1, [11, 0, 2, 574]) by decide +kernel) ht,
  fun _ _ _ _ => WP_s (show ct 108 8 = some (.aload_n 0, 0, []) by decide +kernel) rfl,
  fun _ _ _ _ _ _ ht => WC_1 (show ct 108 9 = some (.invokevirtual 90, 3, [109, 1, 1, 12, 0, 624, 626, 1]) by decide +kernel) (Nat.le_of_ble_eq_true rfl) (Nat.le_of_ble_eq_true rfl) rfl rfl ht,
  fun _ _ _ _ => WP_s (show ct 108 12 = some (.aload_n 0, 0, []) by decide +kernel) rfl,
  fun _ _ _ _ _ ht => WH_gR (show ct 108 13 = some (.getfield 20, 1, [11, 3, 2, 577]) by decide +kernel) ht,
  fun _ _ _ _ _ _ _ ht => WC_1 (show ct 108 16 = some (.invokevirtual 94, 3, [66, 4, 1, 8, 0, 628, 629, 630]) by decide +kernel) (Nat.le_of_ble_eq_true rfl) (Nat.le_of_ble_eq_true rfl) rfl rfl ht,
  fun _ _ _ _ _ => WP_s (show ct 108 19 = some (.istore_n 1, 0, []) by decide +kernel) rfl,
  fun _ _ _ _ _ => WP_s (show ct 108 20 = some (.iload_n 1, 0, []) by decide +kernel) rfl,
  fun _ _ _ _ _ _ => WZ_ne (show ct 108 21 = some (.ifCond .ne 13, 0, [34]) by decide +kernel) (by decide),
  fun _ _ _ _ _ => WP_s (show ct 108 24 = some (.iconst (-1), 0, []) by decide +kernel) rfl,
  fun _ _ _ _ _ => WP_s (show ct 108 25 = some (.aload_n 0, 0, []) by decide +kernel) rfl,
  fun _ _ _ _ _ _ ht => WH_gR (show ct 108 26 = some (.getfield 26, 1, [11, 4, 2, 578]) by decide +kernel) ht,
  fun _ _ _ _ _ _ ht => WH_gI (show ct 108 29 = some (.getfield 98, 1, [7, 4, 0, 313]) by decide +kernel) (by decide) ht,
  fun _ _ _ _ _ _ _ => WP_s (show ct 108 32 = some (.isub, 0, []) by decide +kernel) rfl,
  fun _ _ _ _ _ => WR_i (show ct 108 33 = some (.ireturn, 2, [0]) by decide +kernel),
  fun _ _ _ _ _ => WP_s (show ct 108 34 = some (.aload_n 0, 0, []) by decide +kernel) rfl,
  fun _ _ _ _ _ _ ht => WH_gR (show ct 108 35 = some (.getfield 16, 1, [11, 2, 2, 576]) by decide +kernel) ht,
  fun _ _ _ _ _ _ => WP_s (show ct 108 38 = some (.astore_n 2, 0, []) by decide +kernel) rfl,
  fun _ _ _ _ _ _ => WP_s (show ct 108 39 = some (.aload_n 0, 0, []) by decide +kernel) rfl,
  fun _ _ _ _ _ _ => WP_s (show ct 108 40 = some (.aload_n 0, 0, []) by decide +kernel) rfl,
  fun _ _ _ _ _ _ _ ht => WH_gR (show ct 108 41 = some (.getfield 20, 1, [11, 3, 2, 577]) by decide +kernel) ht,
  fun _ _ _ _ _ _ _ _ ht => WH_pR (show ct 108 44 = some (.putfield 16, 1, [11, 2, 2, 0, 576]) by decide +kernel) ht,
  fun _ _ _ _ _ _ => WP_s (show ct 108 47 = some (.aload_n 0, 0, []) by decide +kernel) rfl,
  fun _ _ _ _ _ _ => WP_s (show ct 108 48 = some (.aload_n 2, 0, []) by decide +kernel) rfl,
  fun _ _ _ _ _ _ _ _ ht => WH_pR (show ct 108 49 = some (.putfield 20, 1, [11, 3, 2, 0, 577]) by decide +kernel) ht,
  fun _ _ _ _ _ _ => WP_s (show ct 108 52 = some (.aload_n 0, 0, []) by decide +kernel) rfl,
  fun _ _ _ _ _ _ _ ht => WH_gR (show ct 108 53 = some (.getfield 48, 1, [11, 6, 2, 580]) by decide +kernel) ht,
  fun _ _ _ _ _ _ ht => WC_1 (show ct 108 56 = some (.invokevirtual 101, 3, [51, 1, 1, 7, 0, 745, 746, 747]) by decide +kernel) (Nat.le_of_ble_eq_true rfl) (Nat.le_of_ble_eq_true rfl) rfl rfl ht,
  fun _ _ _ _ _ _ => WP_s (show ct 108 59 = some (.aload_n 0, 0, []) by decide +kernel) rfl,
  fun _ _ _ _ _ _ _ ht => WH_gR (show ct 108 60 = some (.getfield 16, 1, [11, 2, 2, 576]) by decide +kernel) ht,
  fun _ _ _ _ _ _ _ ht => WH_gI (show ct 108 63 = some (.getfield 104, 1, [3, 0, 0, 138]) by decide +kernel) (by decide) ht,
  fun _ _ _ _ _ _ => WR_i (show ct 108 66 = some (.ireturn, 2, [0]) by decide +kernel)⟩
/-! 109: FewBowls.takeTape()I; loop heads [] -/
set_option maxRecDepth 10000 in
theorem w109 : (∀ (x0 : Nat) (st : List Value) (h : AH) (Q : Option Value → AH → Prop), WP 109 0 [.ref x0, .retAddr 0] (st) h Q ↔ WP 109 1 [.ref x0, .retAddr 0] (.ref x0 :: st) h Q) ∧
  (∀ (x0 : Nat) (y0 : Nat) (st : List Value) (h : AH) (Q : Option Value → AH → Prop) (ht : hT h y0 = 12), WP 109 1 [.ref x0, .retAddr 0] (.ref y0 :: st) h Q ↔ WP 109 4 [.ref x0, .retAddr 0] (.int (hI h y0 1) :: st) h Q) ∧
  (∀ (x0 : Nat) (y0 : Int32) (st : List Value) (h : AH) (Q : Option Value → AH → Prop), WP 109 4 [.ref x0, .retAddr 0] (.int y0 :: st) h Q ↔ WP 109 5 [.ref x0, .int y0] (st) h Q) ∧
  (∀ (x0 : Nat) (x1 : Int32) (st : List Value) (h : AH) (Q : Option Value → AH → Prop), WP 109 5 [.ref x0, .int x1] (st) h Q ↔ WP 109 6 [.ref x0, .int x1] (.ref x0 :: st) h Q) ∧
  (∀ (x0 : Nat) (x1 : Int32) (st : List Value) (h : AH) (Q : Option Value → AH → Prop), WP 109 6 [.ref x0, .int x1] (st) h Q ↔ WP 109 7 [.ref x0, .int x1] (.int (0) :: st) h Q) ∧
  (∀ (x0 : Nat) (x1 : Int32) (y0 : Int32) (y1 : Nat) (st : List Value) (h : AH) (Q : Option Value → AH → Prop) (ht : hT h y1 = 12), WP 109 7 [.ref x0, .int x1] (.int y0 :: .ref y1 :: st) h Q ↔ WP 109 10 [.ref x0, .int x1] (st) (sI h y1 1 y0) Q) ∧
  (∀ (x0 : Nat) (x1 : Int32) (st : List Value) (h : AH) (Q : Option Value → AH → Prop), WP 109 10 [.ref x0, .int x1] (st) h Q ↔ WP 109 11 [.ref x0, .int x1] (.int x1 :: st) h Q) ∧
  (∀ (x0 : Nat) (x1 : Int32) (y0 : Int32) (h : AH) (Q : Option Value → AH → Prop), WP 109 11 [.ref x0, .int x1] ([.int y0]) h Q ↔ Q (some (.int y0)) h) :=
  ⟨fun _ _ _ _ => WP_s (show ct 109 0 = some (.aload_n 0, 0, []) by decide +kernel) rfl,
  fun _ _ _ _ _ ht => WH_gI (show ct 109 1 = some (.getfield 82, 1, [11, 1, 0, 575]) by decide +kernel) (by decide) ht,
  fun _ _ _ _ _ => WP_s (show ct 109 4 = some (.istore_n 1, 0, []) by decide +kernel) rfl,
  fun _ _ _ _ _ => WP_s (show ct 109 5 = some (.aload_n 0, 0, []) by decide +kernel) rfl,
  fun _ _ _ _ _ => WP_s (show ct 109 6 = some (.iconst 0, 0, []) by decide +kernel) rfl,
  fun _ _ _ _ _ _ _ ht => WH_pI (show ct 109 7 = some (.putfield 82, 1, [11, 1, 0, 0, 575]) by decide +kernel) ht,
  fun _ _ _ _ _ => WP_s (show ct 109 10 = some (.iload_n 1, 0, []) by decide +kernel) rfl,
  fun _ _ _ _ _ => WR_i (show ct 109 11 = some (.ireturn, 2, [0]) by decide +kernel)⟩
/-! 110: FewBowls.fault()I; loop heads [] -/
set_option maxRecDepth 10000 in
theorem w110 : (∀ (x0 : Nat) (st : List Value) (h : AH) (Q : Option Value → AH → Prop), WP 110 0 [.ref x0] (st) h Q ↔ WP 110 1 [.ref x0] (.ref x0 :: st) h Q) ∧
  (∀ (x0 : Nat) (y0 : Nat) (st : List Value) (h : AH) (Q : Option Value → AH → Prop) (ht : hT h y0 = 12), WP 110 1 [.ref x0] (.ref y0 :: st) h Q ↔ WP 110 4 [.ref x0] (.ref (hR h y0 4) :: st) h Q) ∧
  (∀ (x0 : Nat) (y0 : Nat) (st : List Value) (h : AH) (Q : Option Value → AH → Prop) (ht : hT h y0 = 8), WP 110 4 [.ref x0] (.ref y0 :: st) h Q ↔ WP 110 7 [.ref x0] (.int (hI h y0 3) :: st) h Q) ∧
  (∀ (x0 : Nat) (y0 : Int32) (h : AH) (Q : Option Value → AH → Prop), WP 110 7 [.ref x0] ([.int y0]) h Q ↔ Q (some (.int y0)) h) :=
  ⟨fun _ _ _ _ => WP_s (show ct 110 0 = some (.aload_n 0, 0, []) by decide +kernel) rfl,
  fun _ _ _ _ _ ht => WH_gR (show ct 110 1 = some (.getfield 26, 1, [11, 4, 2, 578]) by decide +kernel) ht,
  fun _ _ _ _ _ ht => WH_gI (show ct 110 4 = some (.getfield 107, 1, [7, 3, 0, 311]) by decide +kernel) (by decide) ht,
  fun _ _ _ _ => WR_i (show ct 110 7 = some (.ireturn, 2, [0]) by decide +kernel)⟩
/-! 111: FewBowls.branch(IZ)I; loop heads [] -/
set_option maxRecDepth 10000 in
theorem w111 : (∀ (x0 : Nat) (x1 : Int32) (x2 : Int32) (st : List Value) (h : AH) (Q : Option Value → AH → Prop), WP 111 0 [.ref x0, .int x1, .int x2] (st) h Q ↔ WP 111 1 [.ref x0, .int x1, .int x2] (.ref x0 :: st) h Q) ∧
  (∀ (x0 : Nat) (x1 : Int32) (x2 : Int32) (y0 : Nat) (st : List Value) (h : AH) (Q : Option Value → AH → Prop) (ht : hT h y0 = 12), WP 111 1 [.ref x0, .int x1, .int x2] (.ref y0 :: st) h Q ↔ WP 111 4 [.ref x0, .int x1, .int x2] (.ref (hR h y0 2) :: st) h Q) ∧
  (∀ (x0 : Nat) (x1 : Int32) (x2 : Int32) (st : List Value) (h : AH) (Q : Option Value → AH → Prop), WP 111 4 [.ref x0, .int x1, .int x2] (st) h Q ↔ WP 111 5 [.ref x0, .int x1, .int x2] (.int x1 :: st) h Q) ∧
  (∀ (x0 : Nat) (x1 : Int32) (x2 : Int32) (y1 : Nat) (y0 : Int32) (h : AH) (Q : Option Value → AH → Prop) (ht : hT h y1 = 4), WP 111 5 [.ref x0, .int x1, .int x2] ([.int y0, .ref y1]) h Q ↔ WPM 24 [.ref y1, .int y0] h (fun r h' => WP 111 8 [.ref x0, .int x1, .int x2] (r.toList ++ []) h' Q)) ∧
  (∀ (x0 : Nat) (x1 : Int32) (x2 : Int32) (y0 : Int32) (st : List Value) (h : AH) (Q : Option Value → AH → Prop), WP 111 8 [.ref x0, .int x1, .int x2] (.int y0 :: st) h Q ↔ ((¬ y0 = 0 → WP 111 13 [.ref x0, .int x1, .int x2] (st) h Q) ∧ (y0 = 0 → WP 111 11 [.ref x0, .int x1, .int x2] (st) h Q))) ∧
  (∀ (x0 : Nat) (x1 : Int32) (x2 : Int32) (st : List Value) (h : AH) (Q : Option Value → AH → Prop), WP 111 11 [.ref x0, .int x1, .int x2] (st) h Q ↔ WP 111 12 [.ref x0, .int x1, .int x2] (.int (-1) :: st) h Q) ∧
  (∀ (x0 : Nat) (x1 : Int32) (x2 : Int32) (y0 : Int32) (h : AH) (Q : Option Value → AH → Prop), WP 111 12 [.ref x0, .int x1, .int x2] ([.int y0]) h Q ↔ Q (some (.int y0)) h) ∧
  (∀ (x0 : Nat) (x1 : Int32) (x2 : Int32) (st : List Value) (h : AH) (Q : Option Value → AH → Prop), WP 111 13 [.ref x0, .int x1, .int x2] (st) h Q ↔ WP 111 14 [.ref x0, .int x1, .int x2] (.int x2 :: st) h Q) ∧
  (∀ (x0 : Nat) (x1 : Int32) (x2 : Int32) (y0 : Int32) (st : List Value) (h : AH) (Q : Option Value → AH → Prop), WP 111 14 [.ref x0, .int x1, .int x2] (.int y0 :: st) h Q ↔ ((y0 = 0 → WP 111 29 [.ref x0, .int x1, .int x2] (st) h Q) ∧ (¬ y0 = 0 → WP 111 17 [.ref x0, .int x1, .int x2] (st) h Q))) ∧
  (∀ (x0 : Nat) (x1 : Int32) (x2 : Int32) (st : List Value) (h : AH) (Q : Option Value → AH → Prop), WP 111 17 [.ref x0, .int x1, .int x2] (st) h Q ↔ WP 111 18 [.ref x0, .int x1, .int x2] (.ref x0 :: st) h Q) ∧
  (∀ (x0 : Nat) (x1 : Int32) (x2 : Int32) (y0 : Nat) (st : List Value) (h : AH) (Q : Option Value → AH → Prop) (ht : hT h y0 = 12), WP 111 18 [.ref x0, .int x1, .int x2] (.ref y0 :: st) h Q ↔ WP 111 21 [.ref x0, .int x1, .int x2] (.ref (hR h y0 2) :: st) h Q) ∧
  (∀ (x0 : Nat) (x1 : Int32) (x2 : Int32) (y0 : Nat) (st : List Value) (h : AH) (Q : Option Value → AH → Prop) (ht : hT h y0 = 4), WP 111 21 [.ref x0, .int x1, .int x2] (.ref y0 :: st) h Q ↔ WP 111 24 [.ref x0, .int x1, .int x2] (.ref (hR h y0 10) :: st) h Q) ∧
  (∀ (x0 : Nat) (x1 : Int32) (x2 : Int32) (st : List Value) (h : AH) (Q : Option Value → AH → Prop), WP 111 24 [.ref x0, .int x1, .int x2] (st) h Q ↔ WP 111 25 [.ref x0, .int x1, .int x2] (.int x1 :: st) h Q) ∧
  (∀ (x0 : Nat) (x1 : Int32) (x2 : Int32) (y0 : Int32) (y1 : Nat) (st : List Value) (h : AH) (Q : Option Value → AH → Prop) (ht : hT h y1 = 100 ∨ hT h y1 = 110) (hi : inb y0 (hL h y1) = true), WP 111 25 [.ref x0, .int x1, .int x2] (.int y0 :: .ref y1 :: st) h Q ↔ WP 111 26 [.ref x0, .int x1, .int x2] (.int (hI h y1 y0.toNatClampNeg) :: st) h Q) ∧
  (∀ (x0 : Nat) (x1 : Int32) (x2 : Int32) (st : List Value) (h : AH) (Q : Option Value → AH → Prop), WP 111 26 [.ref x0, .int x1, .int x2] (st) h Q ↔ WP 111 38 [.ref x0, .int x1, .int x2] (st) h Q) ∧
  (∀ (x0 : Nat) (x1 : Int32) (x2 : Int32) (st : List Value) (h : AH) (Q : Option Value → AH → Prop), WP 111 29 [.ref x0, .int x1, .int x2] (st) h Q ↔ WP 111 30 [.ref x0, .int x1, .int x2] (.ref x0 :: st) h Q) ∧
  (∀ (x0 : Nat) (x1 : Int32) (x2 : Int32) (y0 : Nat) (st : List Value) (h : AH) (Q : Option Value → AH → Prop) (ht : hT h y0 = 12), WP 111 30 [.ref x0, .int x1, .int x2] (.ref y0 :: st) h Q ↔ WP 111 33 [.ref x0, .int x1, .int x2] (.ref (hR h y0 2) :: st) h Q) ∧
  (∀ (x0 : Nat) (x1 : Int32) (x2 : Int32) (y0 : Nat) (st : List Value) (h : AH) (Q : Option Value → AH → Prop) (ht : hT h y0 = 4), WP 111 33 [.ref x0, .int x1, .int x2] (.ref y0 :: st) h Q ↔ WP 111 36 [.ref x0, .int x1, .int x2] (.ref (hR h y0 9) :: st) h Q) ∧
  (∀ (x0 : Nat) (x1 : Int32) (x2 : Int32) (st : List Value) (h : AH) (Q : Option Value → AH → Prop), WP 111 36 [.ref x0, .int x1, .int x2] (st) h Q ↔ WP 111 37 [.ref x0, .int x1, .int x2] (.int x1 :: st) h Q) ∧
  (∀ (x0 : Nat) (x1 : Int32) (x2 : Int32) (y0 : Int32) (y1 : Nat) (st : List Value) (h : AH) (Q : Option Value → AH → Prop) (ht : hT h y1 = 100 ∨ hT h y1 = 110) (hi : inb y0 (hL h y1) = true), WP 111 37 [.ref x0, .int x1, .int x2] (.int y0 :: .ref y1 :: st) h Q ↔ WP 111 38 [.ref x0, .int x1, .int x2] (.int (hI h y1 y0.toNatClampNeg) :: st) h Q) ∧
  (∀ (x0 : Nat) (x1 : Int32) (x2 : Int32) (y0 : Int32) (h : AH) (Q : Option Value → AH → Prop), WP 111 38 [.ref x0, .int x1, .int x2] ([.int y0]) h Q ↔ Q (some (.int y0)) h) :=
  ⟨fun _ _ _ _ _ _ => WP_s (show ct 111 0 = some (.aload_n 0, 0, []) by decide +kernel) rfl,
  fun _ _ _ _ _ _ _ ht => WH_gR (show ct 111 1 = some (.getfield 16, 1, [11, 2, 2, 576]) by decide +kernel) ht,
  fun _ _ _ _ _ _ => WP_s (show ct 111 4 = some (.iload_n 1, 0, []) by decide +kernel) rfl,
  fun _ _ _ _ _ _ _ ht => WC_1 (show ct 111 5 = some (.invokevirtual 110, 3, [24, 2, 1, 4, 0, 757, 758, 759]) by decide +kernel) (Nat.le_of_ble_eq_true rfl) (Nat.le_of_ble_eq_true rfl) rfl rfl ht,
  fun _ _ _ _ _ _ _ => WZ_ne (show ct 111 8 = some (.ifCond .ne 5, 0, [13]) by decide +kernel) (by decide),
  fun _ _ _ _ _ _ => WP_s (show ct 111 11 = some (.iconst (-1), 0, []) by decide +kernel) rfl,
  fun _ _ _ _ _ _ => WR_i (show ct 111 12 = some (.ireturn, 2, [0]) by decide +kernel),
  fun _ _ _ _ _ _ => WP_s (show ct 111 13 = some (.iload_n 2, 0, []) by decide +kernel) rfl,
  fun _ _ _ _ _ _ _ => WZ_eq (show ct 111 14 = some (.ifCond .eq 15, 0, [29]) by decide +kernel) (by decide),
  fun _ _ _ _ _ _ => WP_s (show ct 111 17 = some (.aload_n 0, 0, []) by decide +kernel) rfl,
  fun _ _ _ _ _ _ _ ht => WH_gR (show ct 111 18 = some (.getfield 16, 1, [11, 2, 2, 576]) by decide +kernel) ht,
  fun _ _ _ _ _ _ _ ht => WH_gR (show ct 111 21 = some (.getfield 146, 1, [3, 10, 2, 173]) by decide +kernel) ht,
  fun _ _ _ _ _ _ => WP_s (show ct 111 24 = some (.iload_n 1, 0, []) by decide +kernel) rfl,
  fun _ _ _ _ _ _ _ _ ht hi => WH_iald (show ct 111 25 = some (.iaload, 1, []) by decide +kernel) ht hi,
  fun _ _ _ _ _ _ => WP_s (show ct 111 26 = some (.goto 12, 0, [38]) by decide +kernel) rfl,
  fun _ _ _ _ _ _ => WP_s (show ct 111 29 = some (.aload_n 0, 0, []) by decide +kernel) rfl,
  fun _ _ _ _ _ _ _ ht => WH_gR (show ct 111 30 = some (.getfield 16, 1, [11, 2, 2, 576]) by decide +kernel) ht,
  fun _ _ _ _ _ _ _ ht => WH_gR (show ct 111 33 = some (.getfield 149, 1, [3, 9, 2, 171]) by decide +kernel) ht,
  fun _ _ _ _ _ _ => WP_s (show ct 111 36 = some (.iload_n 1, 0, []) by decide +kernel) rfl,
  fun _ _ _ _ _ _ _ _ ht hi => WH_iald (show ct 111 37 = some (.iaload, 1, []) by decide +kernel) ht hi,
  fun _ _ _ _ _ _ => WR_i (show ct 111 38 = some (.ireturn, 2, [0]) by decide +kernel)⟩
/-! 112: FewBowls.fewest(I)I; loop heads [] -/
set_option maxRecDepth 10000 in
theorem w112 : (∀ (x0 : Nat) (x1 : Int32) (st : List Value) (h : AH) (Q : Option Value → AH → Prop), WP 112 0 [.ref x0, .int x1] (st) h Q ↔ WP 112 1 [.ref x0, .int x1] (.ref x0 :: st) h Q) ∧
  (∀ (x0 : Nat) (x1 : Int32) (st : List Value) (h : AH) (Q : Option Value → AH → Prop), WP 112 1 [.ref x0, .int x1] (st) h Q ↔ WP 112 2 [.ref x0, .int x1] (.int x1 :: st) h Q) ∧
  (∀ (x0 : Nat) (x1 : Int32) (y1 : Nat) (y0 : Int32) (h : AH) (Q : Option Value → AH → Prop) (ht : hT h y1 = 12), WP 112 2 [.ref x0, .int x1] ([.int y0, .ref y1]) h Q ↔ WPM 136 [.ref y1, .int y0] h (fun r h' => WP 112 5 [.ref x0, .int x1] (r.toList ++ []) h' Q)) ∧
  (∀ (x0 : Nat) (x1 : Int32) (y0 : Int32) (st : List Value) (h : AH) (Q : Option Value → AH → Prop), WP 112 5 [.ref x0, .int x1] (.int y0 :: st) h Q ↔ ((y0 = 0 → WP 112 30 [.ref x0, .int x1] (st) h Q) ∧ (¬ y0 = 0 → WP 112 8 [.ref x0, .int x1] (st) h Q))) ∧
  (∀ (x0 : Nat) (x1 : Int32) (st : List Value) (h : AH) (Q : Option Value → AH → Prop), WP 112 8 [.ref x0, .int x1] (st) h Q ↔ WP 112 9 [.ref x0, .int x1] (.ref x0 :: st) h Q) ∧
  (∀ (x0 : Nat) (x1 : Int32) (y0 : Nat) (st : List Value) (h : AH) (Q : Option Value → AH → Prop) (ht : hT h y0 = 12), WP 112 9 [.ref x0, .int x1] (.ref y0 :: st) h Q ↔ WP 112 12 [.ref x0, .int x1] (.ref (hR h y0 6) :: st) h Q) ∧
  (∀ (x0 : Nat) (x1 : Int32) (st : List Value) (h : AH) (Q : Option Value → AH → Prop), WP 112 12 [.ref x0, .int x1] (st) h Q ↔ WP 112 13 [.ref x0, .int x1] (.ref x0 :: st) h Q) ∧
  (∀ (x0 : Nat) (x1 : Int32) (y0 : Nat) (st : List Value) (h : AH) (Q : Option Value → AH → Prop) (ht : hT h y0 = 12), WP 112 13 [.ref x0, .int x1] (.ref y0 :: st) h Q ↔ WP 112 16 [.ref x0, .int x1] (.ref (hR h y0 2) :: st) h Q) ∧
  (∀ (x0 : Nat) (x1 : Int32) (st : List Value) (h : AH) (Q : Option Value → AH → Prop), WP 112 16 [.ref x0, .int x1] (st) h Q ↔ WP 112 17 [.ref x0, .int x1] (.ref x0 :: st) h Q) ∧
  (∀ (x0 : Nat) (x1 : Int32) (y0 : Nat) (st : List Value) (h : AH) (Q : Option Value → AH → Prop) (ht : hT h y0 = 12), WP 112 17 [.ref x0, .int x1] (.ref y0 :: st) h Q ↔ WP 112 20 [.ref x0, .int x1] (.ref (hR h y0 2) :: st) h Q) ∧
  (∀ (x0 : Nat) (x1 : Int32) (y0 : Nat) (st : List Value) (h : AH) (Q : Option Value → AH → Prop) (ht : hT h y0 = 4), WP 112 20 [.ref x0, .int x1] (.ref y0 :: st) h Q ↔ WP 112 23 [.ref x0, .int x1] (.int (hI h y0 2) :: st) h Q) ∧
  (∀ (x0 : Nat) (x1 : Int32) (st : List Value) (h : AH) (Q : Option Value → AH → Prop), WP 112 23 [.ref x0, .int x1] (st) h Q ↔ WP 112 24 [.ref x0, .int x1] (.int x1 :: st) h Q) ∧
  (∀ (x0 : Nat) (x1 : Int32) (y3 : Nat) (y2 : Nat) (y1 : Int32) (y0 : Int32) (h : AH) (Q : Option Value → AH → Prop) (ht : hT h y3 = 7), WP 112 24 [.ref x0, .int x1] ([.int y0, .int y1, .ref y2, .ref y3]) h Q ↔ WPM 52 [.ref y3, .ref y2, .int y1, .int y0] h (fun r h' => WP 112 27 [.ref x0, .int x1] (r.toList ++ []) h' Q)) ∧
  (∀ (x0 : Nat) (x1 : Int32) (st : List Value) (h : AH) (Q : Option Value → AH → Prop), WP 112 27 [.ref x0, .int x1] (st) h Q ↔ WP 112 31 [.ref x0, .int x1] (st) h Q) ∧
  (∀ (x0 : Nat) (x1 : Int32) (st : List Value) (h : AH) (Q : Option Value → AH → Prop), WP 112 30 [.ref x0, .int x1] (st) h Q ↔ WP 112 31 [.ref x0, .int x1] (.int (-1) :: st) h Q) ∧
  (∀ (x0 : Nat) (x1 : Int32) (y0 : Int32) (h : AH) (Q : Option Value → AH → Prop), WP 112 31 [.ref x0, .int x1] ([.int y0]) h Q ↔ Q (some (.int y0)) h) :=
  ⟨fun _ _ _ _ _ => WP_s (show ct 112 0 = some (.aload_n 0, 0, []) by decide +kernel) rfl,
  fun _ _ _ _ _ => WP_s (show ct 112 1 = some (.iload_n 1, 0, []) by decide +kernel) rfl,
  fun _ _ _ _ _ _ ht => WC_1 (show ct 112 2 = some (.invokevirtual 160, 3, [136, 2, 1, 12, 0, 765, 767, 17]) by decide +kernel) (Nat.le_of_ble_eq_true rfl) (Nat.le_of_ble_eq_true rfl) rfl rfl ht,
  fun _ _ _ _ _ _ => WZ_eq (show ct 112 5 = some (.ifCond .eq 25, 0, [30]) by decide +kernel) (by decide),
  fun _ _ _ _ _ => WP_s (show ct 112 8 = some (.aload_n 0, 0, []) by decide +kernel) rfl,
  fun _ _ _ _ _ _ ht => WH_gR (show ct 112 9 = some (.getfield 48, 1, [11, 6, 2, 580]) by decide +kernel) ht,
  fun _ _ _ _ _ => WP_s (show ct 112 12 = some (.aload_n 0, 0, []) by decide +kernel) rfl,
  fun _ _ _ _ _ _ ht => WH_gR (show ct 112 13 = some (.getfield 16, 1, [11, 2, 2, 576]) by decide +kernel) ht,
  fun _ _ _ _ _ => WP_s (show ct 112 16 = some (.aload_n 0, 0, []) by decide +kernel) rfl,
  fun _ _ _ _ _ _ ht => WH_gR (show ct 112 17 = some (.getfield 16, 1, [11, 2, 2, 576]) by decide +kernel) ht,
  fun _ _ _ _ _ _ ht => WH_gI (show ct 112 20 = some (.getfield 132, 1, [3, 2, 0, 151]) by decide +kernel) (by decide) ht,
  fun _ _ _ _ _ => WP_s (show ct 112 23 = some (.iload_n 1, 0, []) by decide +kernel) rfl,
  fun _ _ _ _ _ _ _ _ ht => WC_1 (show ct 112 24 = some (.invokevirtual 163, 3, [52, 4, 1, 7, 0, 769, 770, 771]) by decide +kernel) (Nat.le_of_ble_eq_true rfl) (Nat.le_of_ble_eq_true rfl) rfl rfl ht,
  fun _ _ _ _ _ => WP_s (show ct 112 27 = some (.goto 4, 0, [31]) by decide +kernel) rfl,
  fun _ _ _ _ _ => WP_s (show ct 112 30 = some (.iconst (-1), 0, []) by decide +kernel) rfl,
  fun _ _ _ _ _ => WR_i (show ct 112 31 = some (.ireturn, 2, [0]) by decide +kernel)⟩
/-! 113: FewBowls.acts(II)I; loop heads [] -/
set_option maxRecDepth 10000 in
theorem w113 : (∀ (x0 : Nat) (x1 : Int32) (x2 : Int32) (st : List Value) (h : AH) (Q : Option Value → AH → Prop), WP 113 0 [.ref x0, .int x1, .int x2] (st) h Q ↔ WP 113 1 [.ref x0, .int x1, .int x2] (.ref x0 :: st) h Q) ∧
  (∀ (x0 : Nat) (x1 : Int32) (x2 : Int32) (st : List Value) (h : AH) (Q : Option Value → AH → Prop), WP 113 1 [.ref x0, .int x1, .int x2] (st) h Q ↔ WP 113 2 [.ref x0, .int x1, .int x2] (.int x1 :: st) h Q) ∧
  (∀ (x0 : Nat) (x1 : Int32) (x2 : Int32) (st : List Value) (h : AH) (Q : Option Value → AH → Prop), WP 113 2 [.ref x0, .int x1, .int x2] (st) h Q ↔ WP 113 3 [.ref x0, .int x1, .int x2] (.int x2 :: st) h Q) ∧
  (∀ (x0 : Nat) (x1 : Int32) (x2 : Int32) (y2 : Nat) (y1 : Int32) (y0 : Int32) (h : AH) (Q : Option Value → AH → Prop) (ht : hT h y2 = 12), WP 113 3 [.ref x0, .int x1, .int x2] ([.int y0, .int y1, .ref y2]) h Q ↔ WPM 137 [.ref y2, .int y1, .int y0] h (fun r h' => WP 113 6 [.ref x0, .int x1, .int x2] (r.toList ++ []) h' Q)) ∧
  (∀ (x0 : Nat) (x1 : Int32) (x2 : Int32) (y0 : Int32) (st : List Value) (h : AH) (Q : Option Value → AH → Prop), WP 113 6 [.ref x0, .int x1, .int x2] (.int y0 :: st) h Q ↔ ((y0 = 0 → WP 113 25 [.ref x0, .int x1, .int x2] (st) h Q) ∧ (¬ y0 = 0 → WP 113 9 [.ref x0, .int x1, .int x2] (st) h Q))) ∧
  (∀ (x0 : Nat) (x1 : Int32) (x2 : Int32) (st : List Value) (h : AH) (Q : Option Value → AH → Prop), WP 113 9 [.ref x0, .int x1, .int x2] (st) h Q ↔ WP 113 10 [.ref x0, .int x1, .int x2] (.ref x0 :: st) h Q) ∧
  (∀ (x0 : Nat) (x1 : Int32) (x2 : Int32) (y0 : Nat) (st : List Value) (h : AH) (Q : Option Value → AH → Prop) (ht : hT h y0 = 12), WP 113 10 [.ref x0, .int x1, .int x2] (.ref y0 :: st) h Q ↔ WP 113 13 [.ref x0, .int x1, .int x2] (.ref (hR h y0 7) :: st) h Q) ∧
  (∀ (x0 : Nat) (x1 : Int32) (x2 : Int32) (st : List Value) (h : AH) (Q : Option Value → AH → Prop), WP 113 13 [.ref x0, .int x1, .int x2] (st) h Q ↔ WP 113 14 [.ref x0, .int x1, .int x2] (.ref x0 :: st) h Q) ∧
  (∀ (x0 : Nat) (x1 : Int32) (x2 : Int32) (y0 : Nat) (st : List Value) (h : AH) (Q : Option Value → AH → Prop) (ht : hT h y0 = 12), WP 113 14 [.ref x0, .int x1, .int x2] (.ref y0 :: st) h Q ↔ WP 113 17 [.ref x0, .int x1, .int x2] (.ref (hR h y0 2) :: st) h Q) ∧
  (∀ (x0 : Nat) (x1 : Int32) (x2 : Int32) (st : List Value) (h : AH) (Q : Option Value → AH → Prop), WP 113 17 [.ref x0, .int x1, .int x2] (st) h Q ↔ WP 113 18 [.ref x0, .int x1, .int x2] (.int x1 :: st) h Q) ∧
  (∀ (x0 : Nat) (x1 : Int32) (x2 : Int32) (st : List Value) (h : AH) (Q : Option Value → AH → Prop), WP 113 18 [.ref x0, .int x1, .int x2] (st) h Q ↔ WP 113 19 [.ref x0, .int x1, .int x2] (.int x2 :: st) h Q) ∧
  (∀ (x0 : Nat) (x1 : Int32) (x2 : Int32) (y3 : Nat) (y2 : Nat) (y1 : Int32) (y0 : Int32) (h : AH) (Q : Option Value → AH → Prop) (ht : hT h y3 = 9), WP 113 19 [.ref x0, .int x1, .int x2] ([.int y0, .int y1, .ref y2, .ref y3]) h Q ↔ WPM 75 [.ref y3, .ref y2, .int y1, .int y0] h (fun r h' => WP 113 22 [.ref x0, .int x1, .int x2] (r.toList ++ []) h' Q)) ∧
  (∀ (x0 : Nat) (x1 : Int32) (x2 : Int32) (st : List Value) (h : AH) (Q : Option Value → AH → Prop), WP 113 22 [.ref x0, .int x1, .int x2] (st) h Q ↔ WP 113 27 [.ref x0, .int x1, .int x2] (st) h Q) ∧
  (∀ (x0 : Nat) (x1 : Int32) (x2 : Int32) (st : List Value) (h : AH) (Q : Option Value → AH → Prop), WP 113 25 [.ref x0, .int x1, .int x2] (st) h Q ↔ WP 113 27 [.ref x0, .int x1, .int x2] (.int (-2) :: st) h Q) ∧
  (∀ (x0 : Nat) (x1 : Int32) (x2 : Int32) (y0 : Int32) (h : AH) (Q : Option Value → AH → Prop), WP 113 27 [.ref x0, .int x1, .int x2] ([.int y0]) h Q ↔ Q (some (.int y0)) h) :=
  ⟨fun _ _ _ _ _ _ => WP_s (show ct 113 0 = some (.aload_n 0, 0, []) by decide +kernel) rfl,
  fun _ _ _ _ _ _ => WP_s (show ct 113 1 = some (.iload_n 1, 0, []) by decide +kernel) rfl,
  fun _ _ _ _ _ _ => WP_s (show ct 113 2 = some (.iload_n 2, 0, []) by decide +kernel) rfl,
  fun _ _ _ _ _ _ _ _ ht => WC_1 (show ct 113 3 = some (.invokevirtual 167, 3, [137, 3, 1, 12, 0, 840, 842, 25]) by decide +kernel) (Nat.le_of_ble_eq_true rfl) (Nat.le_of_ble_eq_true rfl) rfl rfl ht,
  fun _ _ _ _ _ _ _ => WZ_eq (show ct 113 6 = some (.ifCond .eq 19, 0, [25]) by decide +kernel) (by decide),
  fun _ _ _ _ _ _ => WP_s (show ct 113 9 = some (.aload_n 0, 0, []) by decide +kernel) rfl,
  fun _ _ _ _ _ _ _ ht => WH_gR (show ct 113 10 = some (.getfield 55, 1, [11, 7, 2, 581]) by decide +kernel) ht,
  fun _ _ _ _ _ _ => WP_s (show ct 113 13 = some (.aload_n 0, 0, []) by decide +kernel) rfl,
  fun _ _ _ _ _ _ _ ht => WH_gR (show ct 113 14 = some (.getfield 16, 1, [11, 2, 2, 576]) by decide +kernel) ht,
  fun _ _ _ _ _ _ => WP_s (show ct 113 17 = some (.iload_n 1, 0, []) by decide +kernel) rfl,
  fun _ _ _ _ _ _ => WP_s (show ct 113 18 = some (.iload_n 2, 0, []) by decide +kernel) rfl,
  fun _ _ _ _ _ _ _ _ _ ht => WC_1 (show ct 113 19 = some (.invokevirtual 170, 3, [75, 4, 1, 9, 0, 844, 845, 846]) by decide +kernel) (Nat.le_of_ble_eq_true rfl) (Nat.le_of_ble_eq_true rfl) rfl rfl ht,
  fun _ _ _ _ _ _ => WP_s (show ct 113 22 = some (.goto 5, 0, [27]) by decide +kernel) rfl,
  fun _ _ _ _ _ _ => WP_s (show ct 113 25 = some (.bipush (-2), 0, []) by decide +kernel) rfl,
  fun _ _ _ _ _ _ => WR_i (show ct 113 27 = some (.ireturn, 2, [0]) by decide +kernel)⟩
/-! 114: FewBowls.actAt(I)I; loop heads [] -/
set_option maxRecDepth 10000 in
theorem w114 : (∀ (x0 : Nat) (x1 : Int32) (st : List Value) (h : AH) (Q : Option Value → AH → Prop), WP 114 0 [.ref x0, .int x1] (st) h Q ↔ WP 114 1 [.ref x0, .int x1] (.int x1 :: st) h Q) ∧
  (∀ (x0 : Nat) (x1 : Int32) (y0 : Int32) (st : List Value) (h : AH) (Q : Option Value → AH → Prop), WP 114 1 [.ref x0, .int x1] (.int y0 :: st) h Q ↔ ((y0 < 0 → WP 114 27 [.ref x0, .int x1] (st) h Q) ∧ (¬ y0 < 0 → WP 114 4 [.ref x0, .int x1] (st) h Q))) ∧
  (∀ (x0 : Nat) (x1 : Int32) (st : List Value) (h : AH) (Q : Option Value → AH → Prop), WP 114 4 [.ref x0, .int x1] (st) h Q ↔ WP 114 5 [.ref x0, .int x1] (.int x1 :: st) h Q) ∧
  (∀ (x0 : Nat) (x1 : Int32) (st : List Value) (h : AH) (Q : Option Value → AH → Prop), WP 114 5 [.ref x0, .int x1] (st) h Q ↔ WP 114 6 [.ref x0, .int x1] (.ref x0 :: st) h Q) ∧
  (∀ (x0 : Nat) (x1 : Int32) (y0 : Nat) (st : List Value) (h : AH) (Q : Option Value → AH → Prop) (ht : hT h y0 = 12), WP 114 6 [.ref x0, .int x1] (.ref y0 :: st) h Q ↔ WP 114 9 [.ref x0, .int x1] (.ref (hR h y0 7) :: st) h Q) ∧
  (∀ (x0 : Nat) (x1 : Int32) (y0 : Nat) (st : List Value) (h : AH) (Q : Option Value → AH → Prop) (ht : hT h y0 = 9), WP 114 9 [.ref x0, .int x1] (.ref y0 :: st) h Q ↔ WP 114 12 [.ref x0, .int x1] (.int (hI h y0 7) :: st) h Q) ∧
  (∀ (x0 : Nat) (x1 : Int32) (y0 : Int32) (y1 : Int32) (st : List Value) (h : AH) (Q : Option Value → AH → Prop), WP 114 12 [.ref x0, .int x1] (.int y0 :: .int y1 :: st) h Q ↔ ((y0 ≤ y1 → WP 114 27 [.ref x0, .int x1] (st) h Q) ∧ (¬ y0 ≤ y1 → WP 114 15 [.ref x0, .int x1] (st) h Q))) ∧
  (∀ (x0 : Nat) (x1 : Int32) (st : List Value) (h : AH) (Q : Option Value → AH → Prop), WP 114 15 [.ref x0, .int x1] (st) h Q ↔ WP 114 16 [.ref x0, .int x1] (.ref x0 :: st) h Q) ∧
  (∀ (x0 : Nat) (x1 : Int32) (y0 : Nat) (st : List Value) (h : AH) (Q : Option Value → AH → Prop) (ht : hT h y0 = 12), WP 114 16 [.ref x0, .int x1] (.ref y0 :: st) h Q ↔ WP 114 19 [.ref x0, .int x1] (.ref (hR h y0 7) :: st) h Q) ∧
  (∀ (x0 : Nat) (x1 : Int32) (y0 : Nat) (st : List Value) (h : AH) (Q : Option Value → AH → Prop) (ht : hT h y0 = 9), WP 114 19 [.ref x0, .int x1] (.ref y0 :: st) h Q ↔ WP 114 22 [.ref x0, .int x1] (.ref (hR h y0 6) :: st) h Q) ∧
  (∀ (x0 : Nat) (x1 : Int32) (st : List Value) (h : AH) (Q : Option Value → AH → Prop), WP 114 22 [.ref x0, .int x1] (st) h Q ↔ WP 114 23 [.ref x0, .int x1] (.int x1 :: st) h Q) ∧
  (∀ (x0 : Nat) (x1 : Int32) (y0 : Int32) (y1 : Nat) (st : List Value) (h : AH) (Q : Option Value → AH → Prop) (ht : hT h y1 = 100 ∨ hT h y1 = 110) (hi : inb y0 (hL h y1) = true), WP 114 23 [.ref x0, .int x1] (.int y0 :: .ref y1 :: st) h Q ↔ WP 114 24 [.ref x0, .int x1] (.int (hI h y1 y0.toNatClampNeg) :: st) h Q) ∧
  (∀ (x0 : Nat) (x1 : Int32) (st : List Value) (h : AH) (Q : Option Value → AH → Prop), WP 114 24 [.ref x0, .int x1] (st) h Q ↔ WP 114 28 [.ref x0, .int x1] (st) h Q) ∧
  (∀ (x0 : Nat) (x1 : Int32) (st : List Value) (h : AH) (Q : Option Value → AH → Prop), WP 114 27 [.ref x0, .int x1] (st) h Q ↔ WP 114 28 [.ref x0, .int x1] (.int (-1) :: st) h Q) ∧
  (∀ (x0 : Nat) (x1 : Int32) (y0 : Int32) (h : AH) (Q : Option Value → AH → Prop), WP 114 28 [.ref x0, .int x1] ([.int y0]) h Q ↔ Q (some (.int y0)) h) :=
  ⟨fun _ _ _ _ _ => WP_s (show ct 114 0 = some (.iload_n 1, 0, []) by decide +kernel) rfl,
  fun _ _ _ _ _ _ => WZ_lt (show ct 114 1 = some (.ifCond .lt 26, 0, [27]) by decide +kernel) (by decide),
  fun _ _ _ _ _ => WP_s (show ct 114 4 = some (.iload_n 1, 0, []) by decide +kernel) rfl,
  fun _ _ _ _ _ => WP_s (show ct 114 5 = some (.aload_n 0, 0, []) by decide +kernel) rfl,
  fun _ _ _ _ _ _ ht => WH_gR (show ct 114 6 = some (.getfield 55, 1, [11, 7, 2, 581]) by decide +kernel) ht,
  fun _ _ _ _ _ _ ht => WH_gI (show ct 114 9 = some (.getfield 173, 1, [8, 7, 0, 468]) by decide +kernel) (by decide) ht,
  fun _ _ _ _ _ _ _ => WI_ge (show ct 114 12 = some (.if_icmp .ge 15, 0, [27]) by decide +kernel) (by decide),
  fun _ _ _ _ _ => WP_s (show ct 114 15 = some (.aload_n 0, 0, []) by decide +kernel) rfl,
  fun _ _ _ _ _ _ ht => WH_gR (show ct 114 16 = some (.getfield 55, 1, [11, 7, 2, 581]) by decide +kernel) ht,
  fun _ _ _ _ _ _ ht => WH_gR (show ct 114 19 = some (.getfield 176, 1, [8, 6, 2, 466]) by decide +kernel) ht,
  fun _ _ _ _ _ => WP_s (show ct 114 22 = some (.iload_n 1, 0, []) by decide +kernel) rfl,
  fun _ _ _ _ _ _ _ ht hi => WH_iald (show ct 114 23 = some (.iaload, 1, []) by decide +kernel) ht hi,
  fun _ _ _ _ _ => WP_s (show ct 114 24 = some (.goto 4, 0, [28]) by decide +kernel) rfl,
  fun _ _ _ _ _ => WP_s (show ct 114 27 = some (.iconst (-1), 0, []) by decide +kernel) rfl,
  fun _ _ _ _ _ => WR_i (show ct 114 28 = some (.ireturn, 2, [0]) by decide +kernel)⟩
/-! 115: FewBowls.rows()J; loop heads [] -/
set_option maxRecDepth 10000 in
theorem w115 : (∀ (x0 : Nat) (st : List Value) (h : AH) (Q : Option Value → AH → Prop), WP 115 0 [.ref x0] (st) h Q ↔ WP 115 1 [.ref x0] (.ref x0 :: st) h Q) ∧
  (∀ (x0 : Nat) (y0 : Nat) (st : List Value) (h : AH) (Q : Option Value → AH → Prop) (ht : hT h y0 = 12), WP 115 1 [.ref x0] (.ref y0 :: st) h Q ↔ WP 115 4 [.ref x0] (.ref (hR h y0 7) :: st) h Q) ∧
  (∀ (x0 : Nat) (y0 : Nat) (st : List Value) (h : AH) (Q : Option Value → AH → Prop) (ht : hT h y0 = 9), WP 115 4 [.ref x0] (.ref y0 :: st) h Q ↔ WP 115 7 [.ref x0] (.long (hJ h y0 8) :: st) h Q) ∧
  (∀ (x0 : Nat) (y0 : Int64) (h : AH) (Q : Option Value → AH → Prop), WP 115 7 [.ref x0] ([.long y0]) h Q ↔ Q (some (.long y0)) h) :=
  ⟨fun _ _ _ _ => WP_s (show ct 115 0 = some (.aload_n 0, 0, []) by decide +kernel) rfl,
  fun _ _ _ _ _ ht => WH_gR (show ct 115 1 = some (.getfield 55, 1, [11, 7, 2, 581]) by decide +kernel) ht,
  fun _ _ _ _ _ ht => WH_gJ (show ct 115 4 = some (.getfield 179, 1, [8, 8, 1, 470]) by decide +kernel) ht,
  fun _ _ _ _ => WR_l (show ct 115 7 = some (.lreturn, 2, [0]) by decide +kernel)⟩
/-! 116: FewBowls.times(III)I; loop heads [] -/
set_option maxRecDepth 10000 in
theorem w116 : (∀ (x0 : Nat) (x1 : Int32) (x2 : Int32) (x3 : Int32) (st : List Value) (h : AH) (Q : Option Value → AH → Prop), WP 116 0 [.ref x0, .int x1, .int x2, .int x3] (st) h Q ↔ WP 116 1 [.ref x0, .int x1, .int x2, .int x3] (.ref x0 :: st) h Q) ∧
  (∀ (x0 : Nat) (x1 : Int32) (x2 : Int32) (x3 : Int32) (st : List Value) (h : AH) (Q : Option Value → AH → Prop), WP 116 1 [.ref x0, .int x1, .int x2, .int x3] (st) h Q ↔ WP 116 2 [.ref x0, .int x1, .int x2, .int x3] (.int x2 :: st) h Q) ∧
  (∀ (x0 : Nat) (x1 : Int32) (x2 : Int32) (x3 : Int32) (st : List Value) (h : AH) (Q : Option Value → AH → Prop), WP 116 2 [.ref x0, .int x1, .int x2, .int x3] (st) h Q ↔ WP 116 3 [.ref x0, .int x1, .int x2, .int x3] (.int x3 :: st) h Q) ∧
  (∀ (x0 : Nat) (x1 : Int32) (x2 : Int32) (x3 : Int32) (y2 : Nat) (y1 : Int32) (y0 : Int32) (h : AH) (Q : Option Value → AH → Prop) (ht : hT h y2 = 12), WP 116 3 [.ref x0, .int x1, .int x2, .int x3] ([.int y0, .int y1, .ref y2]) h Q ↔ WPM 137 [.ref y2, .int y1, .int y0] h (fun r h' => WP 116 6 [.ref x0, .int x1, .int x2, .int x3] (r.toList ++ []) h' Q)) ∧
  (∀ (x0 : Nat) (x1 : Int32) (x2 : Int32) (x3 : Int32) (y0 : Int32) (st : List Value) (h : AH) (Q : Option Value → AH → Prop), WP 116 6 [.ref x0, .int x1, .int x2, .int x3] (.int y0 :: st) h Q ↔ ((y0 = 0 → WP 116 20 [.ref x0, .int x1, .int x2, .int x3] (st) h Q) ∧ (¬ y0 = 0 → WP 116 9 [.ref x0, .int x1, .int x2, .int x3] (st) h Q))) ∧
  (∀ (x0 : Nat) (x1 : Int32) (x2 : Int32) (x3 : Int32) (st : List Value) (h : AH) (Q : Option Value → AH → Prop), WP 116 9 [.ref x0, .int x1, .int x2, .int x3] (st) h Q ↔ WP 116 10 [.ref x0, .int x1, .int x2, .int x3] (.ref x0 :: st) h Q) ∧
  (∀ (x0 : Nat) (x1 : Int32) (x2 : Int32) (x3 : Int32) (y0 : Nat) (st : List Value) (h : AH) (Q : Option Value → AH → Prop) (ht : hT h y0 = 12), WP 116 10 [.ref x0, .int x1, .int x2, .int x3] (.ref y0 :: st) h Q ↔ WP 116 13 [.ref x0, .int x1, .int x2, .int x3] (.ref (hR h y0 2) :: st) h Q) ∧
  (∀ (x0 : Nat) (x1 : Int32) (x2 : Int32) (x3 : Int32) (st : List Value) (h : AH) (Q : Option Value → AH → Prop), WP 116 13 [.ref x0, .int x1, .int x2, .int x3] (st) h Q ↔ WP 116 14 [.ref x0, .int x1, .int x2, .int x3] (.int x1 :: st) h Q) ∧
  (∀ (x0 : Nat) (x1 : Int32) (x2 : Int32) (x3 : Int32) (y1 : Nat) (y0 : Int32) (h : AH) (Q : Option Value → AH → Prop) (ht : hT h y1 = 4), WP 116 14 [.ref x0, .int x1, .int x2, .int x3] ([.int y0, .ref y1]) h Q ↔ WPM 24 [.ref y1, .int y0] h (fun r h' => WP 116 17 [.ref x0, .int x1, .int x2, .int x3] (r.toList ++ []) h' Q)) ∧
  (∀ (x0 : Nat) (x1 : Int32) (x2 : Int32) (x3 : Int32) (y0 : Int32) (st : List Value) (h : AH) (Q : Option Value → AH → Prop), WP 116 17 [.ref x0, .int x1, .int x2, .int x3] (.int y0 :: st) h Q ↔ ((¬ y0 = 0 → WP 116 23 [.ref x0, .int x1, .int x2, .int x3] (st) h Q) ∧ (y0 = 0 → WP 116 20 [.ref x0, .int x1, .int x2, .int x3] (st) h Q))) ∧
  (∀ (x0 : Nat) (x1 : Int32) (x2 : Int32) (x3 : Int32) (st : List Value) (h : AH) (Q : Option Value → AH → Prop), WP 116 20 [.ref x0, .int x1, .int x2, .int x3] (st) h Q ↔ WP 116 22 [.ref x0, .int x1, .int x2, .int x3] (.int (-2) :: st) h Q) ∧
  (∀ (x0 : Nat) (x1 : Int32) (x2 : Int32) (x3 : Int32) (y0 : Int32) (h : AH) (Q : Option Value → AH → Prop), WP 116 22 [.ref x0, .int x1, .int x2, .int x3] ([.int y0]) h Q ↔ Q (some (.int y0)) h) ∧
  (∀ (x0 : Nat) (x1 : Int32) (x2 : Int32) (x3 : Int32) (st : List Value) (h : AH) (Q : Option Value → AH → Prop), WP 116 23 [.ref x0, .int x1, .int x2, .int x3] (st) h Q ↔ WP 116 24 [.ref x0, .int x1, .int x2, .int x3] (.ref x0 :: st) h Q) ∧
  (∀ (x0 : Nat) (x1 : Int32) (x2 : Int32) (x3 : Int32) (y0 : Nat) (st : List Value) (h : AH) (Q : Option Value → AH → Prop) (ht : hT h y0 = 12), WP 116 24 [.ref x0, .int x1, .int x2, .int x3] (.ref y0 :: st) h Q ↔ WP 116 27 [.ref x0, .int x1, .int x2, .int x3] (.ref (hR h y0 8) :: st) h Q) ∧
  (∀ (x0 : Nat) (x1 : Int32) (x2 : Int32) (x3 : Int32) (st : List Value) (h : AH) (Q : Option Value → AH → Prop), WP 116 27 [.ref x0, .int x1, .int x2, .int x3] (st) h Q ↔ WP 116 28 [.ref x0, .int x1, .int x2, .int x3] (.ref x0 :: st) h Q) ∧
  (∀ (x0 : Nat) (x1 : Int32) (x2 : Int32) (x3 : Int32) (y0 : Nat) (st : List Value) (h : AH) (Q : Option Value → AH → Prop) (ht : hT h y0 = 12), WP 116 28 [.ref x0, .int x1, .int x2, .int x3] (.ref y0 :: st) h Q ↔ WP 116 31 [.ref x0, .int x1, .int x2, .int x3] (.ref (hR h y0 2) :: st) h Q) ∧
  (∀ (x0 : Nat) (x1 : Int32) (x2 : Int32) (x3 : Int32) (st : List Value) (h : AH) (Q : Option Value → AH → Prop), WP 116 31 [.ref x0, .int x1, .int x2, .int x3] (st) h Q ↔ WP 116 32 [.ref x0, .int x1, .int x2, .int x3] (.int x2 :: st) h Q) ∧
  (∀ (x0 : Nat) (x1 : Int32) (x2 : Int32) (x3 : Int32) (st : List Value) (h : AH) (Q : Option Value → AH → Prop), WP 116 32 [.ref x0, .int x1, .int x2, .int x3] (st) h Q ↔ WP 116 33 [.ref x0, .int x1, .int x2, .int x3] (.int x3 :: st) h Q) ∧
  (∀ (x0 : Nat) (x1 : Int32) (x2 : Int32) (x3 : Int32) (st : List Value) (h : AH) (Q : Option Value → AH → Prop), WP 116 33 [.ref x0, .int x1, .int x2, .int x3] (st) h Q ↔ WP 116 34 [.ref x0, .int x1, .int x2, .int x3] (.int x1 :: st) h Q) ∧
  (∀ (x0 : Nat) (x1 : Int32) (x2 : Int32) (x3 : Int32) (y4 : Nat) (y3 : Nat) (y2 : Int32) (y1 : Int32) (y0 : Int32) (h : AH) (Q : Option Value → AH → Prop) (ht : hT h y4 = 2), WP 116 34 [.ref x0, .int x1, .int x2, .int x3] ([.int y0, .int y1, .int y2, .ref y3, .ref y4]) h Q ↔ WPM 10 [.ref y4, .ref y3, .int y2, .int y1, .int y0] h (fun r h' => WP 116 37 [.ref x0, .int x1, .int x2, .int x3] (r.toList ++ []) h' Q)) ∧
  (∀ (x0 : Nat) (x1 : Int32) (x2 : Int32) (x3 : Int32) (y0 : Int32) (h : AH) (Q : Option Value → AH → Prop), WP 116 37 [.ref x0, .int x1, .int x2, .int x3] ([.int y0]) h Q ↔ Q (some (.int y0)) h) :=
  ⟨fun _ _ _ _ _ _ _ => WP_s (show ct 116 0 = some (.aload_n 0, 0, []) by decide +kernel) rfl,
  fun _ _ _ _ _ _ _ => WP_s (show ct 116 1 = some (.iload_n 2, 0, []) by decide +kernel) rfl,
  fun _ _ _ _ _ _ _ => WP_s (show ct 116 2 = some (.iload_n 3, 0, []) by decide +kernel) rfl,
  fun _ _ _ _ _ _ _ _ _ ht => WC_1 (show ct 116 3 = some (.invokevirtual 167, 3, [137, 3, 1, 12, 0, 840, 842, 25]) by decide +kernel) (Nat.le_of_ble_eq_true rfl) (Nat.le_of_ble_eq_true rfl) rfl rfl ht,
  fun _ _ _ _ _ _ _ _ => WZ_eq (show ct 116 6 = some (.ifCond .eq 14, 0, [20]) by decide +kernel) (by decide),
  fun _ _ _ _ _ _ _ => WP_s (show ct 116 9 = some (.aload_n 0, 0, []) by decide +kernel) rfl,
  fun _ _ _ _ _ _ _ _ ht => WH_gR (show ct 116 10 = some (.getfield 16, 1, [11, 2, 2, 576]) by decide +kernel) ht,
  fun _ _ _ _ _ _ _ => WP_s (show ct 116 13 = some (.iload_n 1, 0, []) by decide +kernel) rfl,
  fun _ _ _ _ _ _ _ _ ht => WC_1 (show ct 116 14 = some (.invokevirtual 110, 3, [24, 2, 1, 4, 0, 757, 758, 759]) by decide +kernel) (Nat.le_of_ble_eq_true rfl) (Nat.le_of_ble_eq_true rfl) rfl rfl ht,
  fun _ _ _ _ _ _ _ _ => WZ_ne (show ct 116 17 = some (.ifCond .ne 6, 0, [23]) by decide +kernel) (by decide),
  fun _ _ _ _ _ _ _ => WP_s (show ct 116 20 = some (.bipush (-2), 0, []) by decide +kernel) rfl,
  fun _ _ _ _ _ _ _ => WR_i (show ct 116 22 = some (.ireturn, 2, [0]) by decide +kernel),
  fun _ _ _ _ _ _ _ => WP_s (show ct 116 23 = some (.aload_n 0, 0, []) by decide +kernel) rfl,
  fun _ _ _ _ _ _ _ _ ht => WH_gR (show ct 116 24 = some (.getfield 62, 1, [11, 8, 2, 582]) by decide +kernel) ht,
  fun _ _ _ _ _ _ _ => WP_s (show ct 116 27 = some (.aload_n 0, 0, []) by decide +kernel) rfl,
  fun _ _ _ _ _ _ _ _ ht => WH_gR (show ct 116 28 = some (.getfield 16, 1, [11, 2, 2, 576]) by decide +kernel) ht,
  fun _ _ _ _ _ _ _ => WP_s (show ct 116 31 = some (.iload_n 2, 0, []) by decide +kernel) rfl,
  fun _ _ _ _ _ _ _ => WP_s (show ct 116 32 = some (.iload_n 3, 0, []) by decide +kernel) rfl,
  fun _ _ _ _ _ _ _ => WP_s (show ct 116 33 = some (.iload_n 1, 0, []) by decide +kernel) rfl,
  fun _ _ _ _ _ _ _ _ _ _ _ ht => WC_1 (show ct 116 34 = some (.invokevirtual 183, 3, [10, 5, 1, 2, 0, 904, 905, 906]) by decide +kernel) (Nat.le_of_ble_eq_true rfl) (Nat.le_of_ble_eq_true rfl) rfl rfl ht,
  fun _ _ _ _ _ _ _ => WR_i (show ct 116 37 = some (.ireturn, 2, [0]) by decide +kernel)⟩
/-! 117: FewBowls.alone(II)I; loop heads [] -/
set_option maxRecDepth 10000 in
theorem w117 : (∀ (x0 : Nat) (x1 : Int32) (x2 : Int32) (st : List Value) (h : AH) (Q : Option Value → AH → Prop), WP 117 0 [.ref x0, .int x1, .int x2] (st) h Q ↔ WP 117 1 [.ref x0, .int x1, .int x2] (.ref x0 :: st) h Q) ∧
  (∀ (x0 : Nat) (x1 : Int32) (x2 : Int32) (st : List Value) (h : AH) (Q : Option Value → AH → Prop), WP 117 1 [.ref x0, .int x1, .int x2] (st) h Q ↔ WP 117 2 [.ref x0, .int x1, .int x2] (.int x2 :: st) h Q) ∧
  (∀ (x0 : Nat) (x1 : Int32) (x2 : Int32) (y1 : Nat) (y0 : Int32) (h : AH) (Q : Option Value → AH → Prop) (ht : hT h y1 = 12), WP 117 2 [.ref x0, .int x1, .int x2] ([.int y0, .ref y1]) h Q ↔ WPM 136 [.ref y1, .int y0] h (fun r h' => WP 117 5 [.ref x0, .int x1, .int x2] (r.toList ++ []) h' Q)) ∧
  (∀ (x0 : Nat) (x1 : Int32) (x2 : Int32) (y0 : Int32) (st : List Value) (h : AH) (Q : Option Value → AH → Prop), WP 117 5 [.ref x0, .int x1, .int x2] (.int y0 :: st) h Q ↔ ((y0 = 0 → WP 117 19 [.ref x0, .int x1, .int x2] (st) h Q) ∧ (¬ y0 = 0 → WP 117 8 [.ref x0, .int x1, .int x2] (st) h Q))) ∧
  (∀ (x0 : Nat) (x1 : Int32) (x2 : Int32) (st : List Value) (h : AH) (Q : Option Value → AH → Prop), WP 117 8 [.ref x0, .int x1, .int x2] (st) h Q ↔ WP 117 9 [.ref x0, .int x1, .int x2] (.ref x0 :: st) h Q) ∧
  (∀ (x0 : Nat) (x1 : Int32) (x2 : Int32) (y0 : Nat) (st : List Value) (h : AH) (Q : Option Value → AH → Prop) (ht : hT h y0 = 12), WP 117 9 [.ref x0, .int x1, .int x2] (.ref y0 :: st) h Q ↔ WP 117 12 [.ref x0, .int x1, .int x2] (.ref (hR h y0 2) :: st) h Q) ∧
  (∀ (x0 : Nat) (x1 : Int32) (x2 : Int32) (st : List Value) (h : AH) (Q : Option Value → AH → Prop), WP 117 12 [.ref x0, .int x1, .int x2] (st) h Q ↔ WP 117 13 [.ref x0, .int x1, .int x2] (.int x1 :: st) h Q) ∧
  (∀ (x0 : Nat) (x1 : Int32) (x2 : Int32) (y1 : Nat) (y0 : Int32) (h : AH) (Q : Option Value → AH → Prop) (ht : hT h y1 = 4), WP 117 13 [.ref x0, .int x1, .int x2] ([.int y0, .ref y1]) h Q ↔ WPM 24 [.ref y1, .int y0] h (fun r h' => WP 117 16 [.ref x0, .int x1, .int x2] (r.toList ++ []) h' Q)) ∧
  (∀ (x0 : Nat) (x1 : Int32) (x2 : Int32) (y0 : Int32) (st : List Value) (h : AH) (Q : Option Value → AH → Prop), WP 117 16 [.ref x0, .int x1, .int x2] (.int y0 :: st) h Q ↔ ((¬ y0 = 0 → WP 117 21 [.ref x0, .int x1, .int x2] (st) h Q) ∧ (y0 = 0 → WP 117 19 [.ref x0, .int x1, .int x2] (st) h Q))) ∧
  (∀ (x0 : Nat) (x1 : Int32) (x2 : Int32) (st : List Value) (h : AH) (Q : Option Value → AH → Prop), WP 117 19 [.ref x0, .int x1, .int x2] (st) h Q ↔ WP 117 20 [.ref x0, .int x1, .int x2] (.int (-1) :: st) h Q) ∧
  (∀ (x0 : Nat) (x1 : Int32) (x2 : Int32) (y0 : Int32) (h : AH) (Q : Option Value → AH → Prop), WP 117 20 [.ref x0, .int x1, .int x2] ([.int y0]) h Q ↔ Q (some (.int y0)) h) ∧
  (∀ (x0 : Nat) (x1 : Int32) (x2 : Int32) (st : List Value) (h : AH) (Q : Option Value → AH → Prop), WP 117 21 [.ref x0, .int x1, .int x2] (st) h Q ↔ WP 117 22 [.ref x0, .int x1, .int x2] (.ref x0 :: st) h Q) ∧
  (∀ (x0 : Nat) (x1 : Int32) (x2 : Int32) (y0 : Nat) (st : List Value) (h : AH) (Q : Option Value → AH → Prop) (ht : hT h y0 = 12), WP 117 22 [.ref x0, .int x1, .int x2] (.ref y0 :: st) h Q ↔ WP 117 25 [.ref x0, .int x1, .int x2] (.ref (hR h y0 6) :: st) h Q) ∧
  (∀ (x0 : Nat) (x1 : Int32) (x2 : Int32) (st : List Value) (h : AH) (Q : Option Value → AH → Prop), WP 117 25 [.ref x0, .int x1, .int x2] (st) h Q ↔ WP 117 26 [.ref x0, .int x1, .int x2] (.ref x0 :: st) h Q) ∧
  (∀ (x0 : Nat) (x1 : Int32) (x2 : Int32) (y0 : Nat) (st : List Value) (h : AH) (Q : Option Value → AH → Prop) (ht : hT h y0 = 12), WP 117 26 [.ref x0, .int x1, .int x2] (.ref y0 :: st) h Q ↔ WP 117 29 [.ref x0, .int x1, .int x2] (.ref (hR h y0 2) :: st) h Q) ∧
  (∀ (x0 : Nat) (x1 : Int32) (x2 : Int32) (st : List Value) (h : AH) (Q : Option Value → AH → Prop), WP 117 29 [.ref x0, .int x1, .int x2] (st) h Q ↔ WP 117 30 [.ref x0, .int x1, .int x2] (.int (1) :: st) h Q) ∧
  (∀ (x0 : Nat) (x1 : Int32) (x2 : Int32) (st : List Value) (h : AH) (Q : Option Value → AH → Prop), WP 117 30 [.ref x0, .int x1, .int x2] (st) h Q ↔ WP 117 31 [.ref x0, .int x1, .int x2] (.int x1 :: st) h Q) ∧
  (∀ (x0 : Nat) (x1 : Int32) (x2 : Int32) (y0 : Int32) (y1 : Int32) (st : List Value) (h : AH) (Q : Option Value → AH → Prop), WP 117 31 [.ref x0, .int x1, .int x2] (.int y0 :: .int y1 :: st) h Q ↔ WP 117 32 [.ref x0, .int x1, .int x2] (.int (y1 <<< (y0 &&& 31)) :: st) h Q) ∧
  (∀ (x0 : Nat) (x1 : Int32) (x2 : Int32) (st : List Value) (h : AH) (Q : Option Value → AH → Prop), WP 117 32 [.ref x0, .int x1, .int x2] (st) h Q ↔ WP 117 33 [.ref x0, .int x1, .int x2] (.int x2 :: st) h Q) ∧
  (∀ (x0 : Nat) (x1 : Int32) (x2 : Int32) (y3 : Nat) (y2 : Nat) (y1 : Int32) (y0 : Int32) (h : AH) (Q : Option Value → AH → Prop) (ht : hT h y3 = 7), WP 117 33 [.ref x0, .int x1, .int x2] ([.int y0, .int y1, .ref y2, .ref y3]) h Q ↔ WPM 52 [.ref y3, .ref y2, .int y1, .int y0] h (fun r h' => WP 117 36 [.ref x0, .int x1, .int x2] (r.toList ++ []) h' Q)) ∧
  (∀ (x0 : Nat) (x1 : Int32) (x2 : Int32) (y0 : Int32) (h : AH) (Q : Option Value → AH → Prop), WP 117 36 [.ref x0, .int x1, .int x2] ([.int y0]) h Q ↔ Q (some (.int y0)) h) :=
  ⟨fun _ _ _ _ _ _ => WP_s (show ct 117 0 = some (.aload_n 0, 0, []) by decide +kernel) rfl,
  fun _ _ _ _ _ _ => WP_s (show ct 117 1 = some (.iload_n 2, 0, []) by decide +kernel) rfl,
  fun _ _ _ _ _ _ _ ht => WC_1 (show ct 117 2 = some (.invokevirtual 160, 3, [136, 2, 1, 12, 0, 765, 767, 17]) by decide +kernel) (Nat.le_of_ble_eq_true rfl) (Nat.le_of_ble_eq_true rfl) rfl rfl ht,
  fun _ _ _ _ _ _ _ => WZ_eq (show ct 117 5 = some (.ifCond .eq 14, 0, [19]) by decide +kernel) (by decide),
  fun _ _ _ _ _ _ => WP_s (show ct 117 8 = some (.aload_n 0, 0, []) by decide +kernel) rfl,
  fun _ _ _ _ _ _ _ ht => WH_gR (show ct 117 9 = some (.getfield 16, 1, [11, 2, 2, 576]) by decide +kernel) ht,
  fun _ _ _ _ _ _ => WP_s (show ct 117 12 = some (.iload_n 1, 0, []) by decide +kernel) rfl,
  fun _ _ _ _ _ _ _ ht => WC_1 (show ct 117 13 = some (.invokevirtual 110, 3, [24, 2, 1, 4, 0, 757, 758, 759]) by decide +kernel) (Nat.le_of_ble_eq_true rfl) (Nat.le_of_ble_eq_true rfl) rfl rfl ht,
  fun _ _ _ _ _ _ _ => WZ_ne (show ct 117 16 = some (.ifCond .ne 5, 0, [21]) by decide +kernel) (by decide),
  fun _ _ _ _ _ _ => WP_s (show ct 117 19 = some (.iconst (-1), 0, []) by decide +kernel) rfl,
  fun _ _ _ _ _ _ => WR_i (show ct 117 20 = some (.ireturn, 2, [0]) by decide +kernel),
  fun _ _ _ _ _ _ => WP_s (show ct 117 21 = some (.aload_n 0, 0, []) by decide +kernel) rfl,
  fun _ _ _ _ _ _ _ ht => WH_gR (show ct 117 22 = some (.getfield 48, 1, [11, 6, 2, 580]) by decide +kernel) ht,
  fun _ _ _ _ _ _ => WP_s (show ct 117 25 = some (.aload_n 0, 0, []) by decide +kernel) rfl,
  fun _ _ _ _ _ _ _ ht => WH_gR (show ct 117 26 = some (.getfield 16, 1, [11, 2, 2, 576]) by decide +kernel) ht,
  fun _ _ _ _ _ _ => WP_s (show ct 117 29 = some (.iconst 1, 0, []) by decide +kernel) rfl,
  fun _ _ _ _ _ _ => WP_s (show ct 117 30 = some (.iload_n 1, 0, []) by decide +kernel) rfl,
  fun _ _ _ _ _ _ _ _ => WP_s (show ct 117 31 = some (.ishl, 0, []) by decide +kernel) rfl,
  fun _ _ _ _ _ _ => WP_s (show ct 117 32 = some (.iload_n 2, 0, []) by decide +kernel) rfl,
  fun _ _ _ _ _ _ _ _ _ ht => WC_1 (show ct 117 33 = some (.invokevirtual 163, 3, [52, 4, 1, 7, 0, 769, 770, 771]) by decide +kernel) (Nat.le_of_ble_eq_true rfl) (Nat.le_of_ble_eq_true rfl) rfl rfl ht,
  fun _ _ _ _ _ _ => WR_i (show ct 117 36 = some (.ireturn, 2, [0]) by decide +kernel)⟩
/-! 118: FewBowls.cost(II)I; loop heads [] -/
set_option maxRecDepth 10000 in
theorem w118 : (∀ (x0 : Nat) (x1 : Int32) (x2 : Int32) (st : List Value) (h : AH) (Q : Option Value → AH → Prop), WP 118 0 [.ref x0, .int x1, .int x2] (st) h Q ↔ WP 118 1 [.ref x0, .int x1, .int x2] (.ref x0 :: st) h Q) ∧
  (∀ (x0 : Nat) (x1 : Int32) (x2 : Int32) (st : List Value) (h : AH) (Q : Option Value → AH → Prop), WP 118 1 [.ref x0, .int x1, .int x2] (st) h Q ↔ WP 118 2 [.ref x0, .int x1, .int x2] (.int x1 :: st) h Q) ∧
  (∀ (x0 : Nat) (x1 : Int32) (x2 : Int32) (st : List Value) (h : AH) (Q : Option Value → AH → Prop), WP 118 2 [.ref x0, .int x1, .int x2] (st) h Q ↔ WP 118 3 [.ref x0, .int x1, .int x2] (.int x2 :: st) h Q) ∧
  (∀ (x0 : Nat) (x1 : Int32) (x2 : Int32) (y2 : Nat) (y1 : Int32) (y0 : Int32) (h : AH) (Q : Option Value → AH → Prop) (ht : hT h y2 = 12), WP 118 3 [.ref x0, .int x1, .int x2] ([.int y0, .int y1, .ref y2]) h Q ↔ WPM 137 [.ref y2, .int y1, .int y0] h (fun r h' => WP 118 6 [.ref x0, .int x1, .int x2] (r.toList ++ []) h' Q)) ∧
  (∀ (x0 : Nat) (x1 : Int32) (x2 : Int32) (y0 : Int32) (st : List Value) (h : AH) (Q : Option Value → AH → Prop), WP 118 6 [.ref x0, .int x1, .int x2] (.int y0 :: st) h Q ↔ ((y0 = 0 → WP 118 26 [.ref x0, .int x1, .int x2] (st) h Q) ∧ (¬ y0 = 0 → WP 118 9 [.ref x0, .int x1, .int x2] (st) h Q))) ∧
  (∀ (x0 : Nat) (x1 : Int32) (x2 : Int32) (st : List Value) (h : AH) (Q : Option Value → AH → Prop), WP 118 9 [.ref x0, .int x1, .int x2] (st) h Q ↔ WP 118 10 [.ref x0, .int x1, .int x2] (.ref x0 :: st) h Q) ∧
  (∀ (x0 : Nat) (x1 : Int32) (x2 : Int32) (y0 : Nat) (st : List Value) (h : AH) (Q : Option Value → AH → Prop) (ht : hT h y0 = 12), WP 118 10 [.ref x0, .int x1, .int x2] (.ref y0 :: st) h Q ↔ WP 118 13 [.ref x0, .int x1, .int x2] (.ref (hR h y0 8) :: st) h Q) ∧
  (∀ (x0 : Nat) (x1 : Int32) (x2 : Int32) (st : List Value) (h : AH) (Q : Option Value → AH → Prop), WP 118 13 [.ref x0, .int x1, .int x2] (st) h Q ↔ WP 118 14 [.ref x0, .int x1, .int x2] (.ref x0 :: st) h Q) ∧
  (∀ (x0 : Nat) (x1 : Int32) (x2 : Int32) (y0 : Nat) (st : List Value) (h : AH) (Q : Option Value → AH → Prop) (ht : hT h y0 = 12), WP 118 14 [.ref x0, .int x1, .int x2] (.ref y0 :: st) h Q ↔ WP 118 17 [.ref x0, .int x1, .int x2] (.ref (hR h y0 2) :: st) h Q) ∧
  (∀ (x0 : Nat) (x1 : Int32) (x2 : Int32) (st : List Value) (h : AH) (Q : Option Value → AH → Prop), WP 118 17 [.ref x0, .int x1, .int x2] (st) h Q ↔ WP 118 18 [.ref x0, .int x1, .int x2] (.int x1 :: st) h Q) ∧
  (∀ (x0 : Nat) (x1 : Int32) (x2 : Int32) (st : List Value) (h : AH) (Q : Option Value → AH → Prop), WP 118 18 [.ref x0, .int x1, .int x2] (st) h Q ↔ WP 118 19 [.ref x0, .int x1, .int x2] (.int x2 :: st) h Q) ∧
  (∀ (x0 : Nat) (x1 : Int32) (x2 : Int32) (st : List Value) (h : AH) (Q : Option Value → AH → Prop), WP 118 19 [.ref x0, .int x1, .int x2] (st) h Q ↔ WP 118 20 [.ref x0, .int x1, .int x2] (.int (-1) :: st) h Q) ∧
  (∀ (x0 : Nat) (x1 : Int32) (x2 : Int32) (y4 : Nat) (y3 : Nat) (y2 : Int32) (y1 : Int32) (y0 : Int32) (h : AH) (Q : Option Value → AH → Prop) (ht : hT h y4 = 2), WP 118 20 [.ref x0, .int x1, .int x2] ([.int y0, .int y1, .int y2, .ref y3, .ref y4]) h Q ↔ WPM 10 [.ref y4, .ref y3, .int y2, .int y1, .int y0] h (fun r h' => WP 118 23 [.ref x0, .int x1, .int x2] (r.toList ++ []) h' Q)) ∧
  (∀ (x0 : Nat) (x1 : Int32) (x2 : Int32) (st : List Value) (h : AH) (Q : Option Value → AH → Prop), WP 118 23 [.ref x0, .int x1, .int x2] (st) h Q ↔ WP 118 28 [.ref x0, .int x1, .int x2] (st) h Q) ∧
  (∀ (x0 : Nat) (x1 : Int32) (x2 : Int32) (st : List Value) (h : AH) (Q : Option Value → AH → Prop), WP 118 26 [.ref x0, .int x1, .int x2] (st) h Q ↔ WP 118 28 [.ref x0, .int x1, .int x2] (.int (-2) :: st) h Q) ∧
  (∀ (x0 : Nat) (x1 : Int32) (x2 : Int32) (y0 : Int32) (h : AH) (Q : Option Value → AH → Prop), WP 118 28 [.ref x0, .int x1, .int x2] ([.int y0]) h Q ↔ Q (some (.int y0)) h) :=
  ⟨fun _ _ _ _ _ _ => WP_s (show ct 118 0 = some (.aload_n 0, 0, []) by decide +kernel) rfl,
  fun _ _ _ _ _ _ => WP_s (show ct 118 1 = some (.iload_n 1, 0, []) by decide +kernel) rfl,
  fun _ _ _ _ _ _ => WP_s (show ct 118 2 = some (.iload_n 2, 0, []) by decide +kernel) rfl,
  fun _ _ _ _ _ _ _ _ ht => WC_1 (show ct 118 3 = some (.invokevirtual 167, 3, [137, 3, 1, 12, 0, 840, 842, 25]) by decide +kernel) (Nat.le_of_ble_eq_true rfl) (Nat.le_of_ble_eq_true rfl) rfl rfl ht,
  fun _ _ _ _ _ _ _ => WZ_eq (show ct 118 6 = some (.ifCond .eq 20, 0, [26]) by decide +kernel) (by decide),
  fun _ _ _ _ _ _ => WP_s (show ct 118 9 = some (.aload_n 0, 0, []) by decide +kernel) rfl,
  fun _ _ _ _ _ _ _ ht => WH_gR (show ct 118 10 = some (.getfield 62, 1, [11, 8, 2, 582]) by decide +kernel) ht,
  fun _ _ _ _ _ _ => WP_s (show ct 118 13 = some (.aload_n 0, 0, []) by decide +kernel) rfl,
  fun _ _ _ _ _ _ _ ht => WH_gR (show ct 118 14 = some (.getfield 16, 1, [11, 2, 2, 576]) by decide +kernel) ht,
  fun _ _ _ _ _ _ => WP_s (show ct 118 17 = some (.iload_n 1, 0, []) by decide +kernel) rfl,
  fun _ _ _ _ _ _ => WP_s (show ct 118 18 = some (.iload_n 2, 0, []) by decide +kernel) rfl,
  fun _ _ _ _ _ _ => WP_s (show ct 118 19 = some (.iconst (-1), 0, []) by decide +kernel) rfl,
  fun _ _ _ _ _ _ _ _ _ _ ht => WC_1 (show ct 118 20 = some (.invokevirtual 183, 3, [10, 5, 1, 2, 0, 904, 905, 906]) by decide +kernel) (Nat.le_of_ble_eq_true rfl) (Nat.le_of_ble_eq_true rfl) rfl rfl ht,
  fun _ _ _ _ _ _ => WP_s (show ct 118 23 = some (.goto 5, 0, [28]) by decide +kernel) rfl,
  fun _ _ _ _ _ _ => WP_s (show ct 118 26 = some (.bipush (-2), 0, []) by decide +kernel) rfl,
  fun _ _ _ _ _ _ => WR_i (show ct 118 28 = some (.ireturn, 2, [0]) by decide +kernel)⟩
/-! 119: FewBowls.reached(II)I; loop heads [] -/
set_option maxRecDepth 10000 in
theorem w119 : (∀ (x0 : Nat) (x1 : Int32) (x2 : Int32) (st : List Value) (h : AH) (Q : Option Value → AH → Prop), WP 119 0 [.ref x0, .int x1, .int x2] (st) h Q ↔ WP 119 1 [.ref x0, .int x1, .int x2] (.ref x0 :: st) h Q) ∧
  (∀ (x0 : Nat) (x1 : Int32) (x2 : Int32) (st : List Value) (h : AH) (Q : Option Value → AH → Prop), WP 119 1 [.ref x0, .int x1, .int x2] (st) h Q ↔ WP 119 2 [.ref x0, .int x1, .int x2] (.int x1 :: st) h Q) ∧
  (∀ (x0 : Nat) (x1 : Int32) (x2 : Int32) (st : List Value) (h : AH) (Q : Option Value → AH → Prop), WP 119 2 [.ref x0, .int x1, .int x2] (st) h Q ↔ WP 119 3 [.ref x0, .int x1, .int x2] (.int x2 :: st) h Q) ∧
  (∀ (x0 : Nat) (x1 : Int32) (x2 : Int32) (y2 : Nat) (y1 : Int32) (y0 : Int32) (h : AH) (Q : Option Value → AH → Prop) (ht : hT h y2 = 12), WP 119 3 [.ref x0, .int x1, .int x2] ([.int y0, .int y1, .ref y2]) h Q ↔ WPM 137 [.ref y2, .int y1, .int y0] h (fun r h' => WP 119 6 [.ref x0, .int x1, .int x2] (r.toList ++ []) h' Q)) ∧
  (∀ (x0 : Nat) (x1 : Int32) (x2 : Int32) (y0 : Int32) (st : List Value) (h : AH) (Q : Option Value → AH → Prop), WP 119 6 [.ref x0, .int x1, .int x2] (.int y0 :: st) h Q ↔ ((y0 = 0 → WP 119 25 [.ref x0, .int x1, .int x2] (st) h Q) ∧ (¬ y0 = 0 → WP 119 9 [.ref x0, .int x1, .int x2] (st) h Q))) ∧
  (∀ (x0 : Nat) (x1 : Int32) (x2 : Int32) (st : List Value) (h : AH) (Q : Option Value → AH → Prop), WP 119 9 [.ref x0, .int x1, .int x2] (st) h Q ↔ WP 119 10 [.ref x0, .int x1, .int x2] (.ref x0 :: st) h Q) ∧
  (∀ (x0 : Nat) (x1 : Int32) (x2 : Int32) (y0 : Nat) (st : List Value) (h : AH) (Q : Option Value → AH → Prop) (ht : hT h y0 = 12), WP 119 10 [.ref x0, .int x1, .int x2] (.ref y0 :: st) h Q ↔ WP 119 13 [.ref x0, .int x1, .int x2] (.ref (hR h y0 6) :: st) h Q) ∧
  (∀ (x0 : Nat) (x1 : Int32) (x2 : Int32) (st : List Value) (h : AH) (Q : Option Value → AH → Prop), WP 119 13 [.ref x0, .int x1, .int x2] (st) h Q ↔ WP 119 14 [.ref x0, .int x1, .int x2] (.ref x0 :: st) h Q) ∧
  (∀ (x0 : Nat) (x1 : Int32) (x2 : Int32) (y0 : Nat) (st : List Value) (h : AH) (Q : Option Value → AH → Prop) (ht : hT h y0 = 12), WP 119 14 [.ref x0, .int x1, .int x2] (.ref y0 :: st) h Q ↔ WP 119 17 [.ref x0, .int x1, .int x2] (.ref (hR h y0 2) :: st) h Q) ∧
  (∀ (x0 : Nat) (x1 : Int32) (x2 : Int32) (st : List Value) (h : AH) (Q : Option Value → AH → Prop), WP 119 17 [.ref x0, .int x1, .int x2] (st) h Q ↔ WP 119 18 [.ref x0, .int x1, .int x2] (.int x1 :: st) h Q) ∧
  (∀ (x0 : Nat) (x1 : Int32) (x2 : Int32) (st : List Value) (h : AH) (Q : Option Value → AH → Prop), WP 119 18 [.ref x0, .int x1, .int x2] (st) h Q ↔ WP 119 19 [.ref x0, .int x1, .int x2] (.int x2 :: st) h Q) ∧
  (∀ (x0 : Nat) (x1 : Int32) (x2 : Int32) (y3 : Nat) (y2 : Nat) (y1 : Int32) (y0 : Int32) (h : AH) (Q : Option Value → AH → Prop) (ht : hT h y3 = 7), WP 119 19 [.ref x0, .int x1, .int x2] ([.int y0, .int y1, .ref y2, .ref y3]) h Q ↔ WPM 53 [.ref y3, .ref y2, .int y1, .int y0] h (fun r h' => WP 119 22 [.ref x0, .int x1, .int x2] (r.toList ++ []) h' Q)) ∧
  (∀ (x0 : Nat) (x1 : Int32) (x2 : Int32) (st : List Value) (h : AH) (Q : Option Value → AH → Prop), WP 119 22 [.ref x0, .int x1, .int x2] (st) h Q ↔ WP 119 26 [.ref x0, .int x1, .int x2] (st) h Q) ∧
  (∀ (x0 : Nat) (x1 : Int32) (x2 : Int32) (st : List Value) (h : AH) (Q : Option Value → AH → Prop), WP 119 25 [.ref x0, .int x1, .int x2] (st) h Q ↔ WP 119 26 [.ref x0, .int x1, .int x2] (.int (-1) :: st) h Q) ∧
  (∀ (x0 : Nat) (x1 : Int32) (x2 : Int32) (y0 : Int32) (h : AH) (Q : Option Value → AH → Prop), WP 119 26 [.ref x0, .int x1, .int x2] ([.int y0]) h Q ↔ Q (some (.int y0)) h) :=
  ⟨fun _ _ _ _ _ _ => WP_s (show ct 119 0 = some (.aload_n 0, 0, []) by decide +kernel) rfl,
  fun _ _ _ _ _ _ => WP_s (show ct 119 1 = some (.iload_n 1, 0, []) by decide +kernel) rfl,
  fun _ _ _ _ _ _ => WP_s (show ct 119 2 = some (.iload_n 2, 0, []) by decide +kernel) rfl,
  fun _ _ _ _ _ _ _ _ ht => WC_1 (show ct 119 3 = some (.invokevirtual 167, 3, [137, 3, 1, 12, 0, 840, 842, 25]) by decide +kernel) (Nat.le_of_ble_eq_true rfl) (Nat.le_of_ble_eq_true rfl) rfl rfl ht,
  fun _ _ _ _ _ _ _ => WZ_eq (show ct 119 6 = some (.ifCond .eq 19, 0, [25]) by decide +kernel) (by decide),
  fun _ _ _ _ _ _ => WP_s (show ct 119 9 = some (.aload_n 0, 0, []) by decide +kernel) rfl,
  fun _ _ _ _ _ _ _ ht => WH_gR (show ct 119 10 = some (.getfield 48, 1, [11, 6, 2, 580]) by decide +kernel) ht,
  fun _ _ _ _ _ _ => WP_s (show ct 119 13 = some (.aload_n 0, 0, []) by decide +kernel) rfl,
  fun _ _ _ _ _ _ _ ht => WH_gR (show ct 119 14 = some (.getfield 16, 1, [11, 2, 2, 576]) by decide +kernel) ht,
  fun _ _ _ _ _ _ => WP_s (show ct 119 17 = some (.iload_n 1, 0, []) by decide +kernel) rfl,
  fun _ _ _ _ _ _ => WP_s (show ct 119 18 = some (.iload_n 2, 0, []) by decide +kernel) rfl,
  fun _ _ _ _ _ _ _ _ _ ht => WC_1 (show ct 119 19 = some (.invokevirtual 186, 3, [53, 4, 1, 7, 0, 953, 954, 955]) by decide +kernel) (Nat.le_of_ble_eq_true rfl) (Nat.le_of_ble_eq_true rfl) rfl rfl ht,
  fun _ _ _ _ _ _ => WP_s (show ct 119 22 = some (.goto 4, 0, [26]) by decide +kernel) rfl,
  fun _ _ _ _ _ _ => WP_s (show ct 119 25 = some (.iconst (-1), 0, []) by decide +kernel) rfl,
  fun _ _ _ _ _ _ => WR_i (show ct 119 26 = some (.ireturn, 2, [0]) by decide +kernel)⟩
/-! 120: FewBowls.canBe(III)I; loop heads [] -/
set_option maxRecDepth 10000 in
theorem w120 : (∀ (x0 : Nat) (x1 : Int32) (x2 : Int32) (x3 : Int32) (st : List Value) (h : AH) (Q : Option Value → AH → Prop), WP 120 0 [.ref x0, .int x1, .int x2, .int x3] (st) h Q ↔ WP 120 1 [.ref x0, .int x1, .int x2, .int x3] (.ref x0 :: st) h Q) ∧
  (∀ (x0 : Nat) (x1 : Int32) (x2 : Int32) (x3 : Int32) (st : List Value) (h : AH) (Q : Option Value → AH → Prop), WP 120 1 [.ref x0, .int x1, .int x2, .int x3] (st) h Q ↔ WP 120 2 [.ref x0, .int x1, .int x2, .int x3] (.int x1 :: st) h Q) ∧
  (∀ (x0 : Nat) (x1 : Int32) (x2 : Int32) (x3 : Int32) (st : List Value) (h : AH) (Q : Option Value → AH → Prop), WP 120 2 [.ref x0, .int x1, .int x2, .int x3] (st) h Q ↔ WP 120 3 [.ref x0, .int x1, .int x2, .int x3] (.int x2 :: st) h Q) ∧
  (∀ (x0 : Nat) (x1 : Int32) (x2 : Int32) (x3 : Int32) (y2 : Nat) (y1 : Int32) (y0 : Int32) (h : AH) (Q : Option Value → AH → Prop) (ht : hT h y2 = 12), WP 120 3 [.ref x0, .int x1, .int x2, .int x3] ([.int y0, .int y1, .ref y2]) h Q ↔ WPM 137 [.ref y2, .int y1, .int y0] h (fun r h' => WP 120 6 [.ref x0, .int x1, .int x2, .int x3] (r.toList ++ []) h' Q)) ∧
  (∀ (x0 : Nat) (x1 : Int32) (x2 : Int32) (x3 : Int32) (y0 : Int32) (st : List Value) (h : AH) (Q : Option Value → AH → Prop), WP 120 6 [.ref x0, .int x1, .int x2, .int x3] (.int y0 :: st) h Q ↔ ((y0 = 0 → WP 120 24 [.ref x0, .int x1, .int x2, .int x3] (st) h Q) ∧ (¬ y0 = 0 → WP 120 9 [.ref x0, .int x1, .int x2, .int x3] (st) h Q))) ∧
  (∀ (x0 : Nat) (x1 : Int32) (x2 : Int32) (x3 : Int32) (st : List Value) (h : AH) (Q : Option Value → AH → Prop), WP 120 9 [.ref x0, .int x1, .int x2, .int x3] (st) h Q ↔ WP 120 10 [.ref x0, .int x1, .int x2, .int x3] (.int x3 :: st) h Q) ∧
  (∀ (x0 : Nat) (x1 : Int32) (x2 : Int32) (x3 : Int32) (y0 : Int32) (st : List Value) (h : AH) (Q : Option Value → AH → Prop), WP 120 10 [.ref x0, .int x1, .int x2, .int x3] (.int y0 :: st) h Q ↔ ((y0 < 0 → WP 120 24 [.ref x0, .int x1, .int x2, .int x3] (st) h Q) ∧ (¬ y0 < 0 → WP 120 13 [.ref x0, .int x1, .int x2, .int x3] (st) h Q))) ∧
  (∀ (x0 : Nat) (x1 : Int32) (x2 : Int32) (x3 : Int32) (st : List Value) (h : AH) (Q : Option Value → AH → Prop), WP 120 13 [.ref x0, .int x1, .int x2, .int x3] (st) h Q ↔ WP 120 14 [.ref x0, .int x1, .int x2, .int x3] (.int x3 :: st) h Q) ∧
  (∀ (x0 : Nat) (x1 : Int32) (x2 : Int32) (x3 : Int32) (st : List Value) (h : AH) (Q : Option Value → AH → Prop), WP 120 14 [.ref x0, .int x1, .int x2, .int x3] (st) h Q ↔ WP 120 15 [.ref x0, .int x1, .int x2, .int x3] (.ref x0 :: st) h Q) ∧
  (∀ (x0 : Nat) (x1 : Int32) (x2 : Int32) (x3 : Int32) (y0 : Nat) (st : List Value) (h : AH) (Q : Option Value → AH → Prop) (ht : hT h y0 = 12), WP 120 15 [.ref x0, .int x1, .int x2, .int x3] (.ref y0 :: st) h Q ↔ WP 120 18 [.ref x0, .int x1, .int x2, .int x3] (.ref (hR h y0 2) :: st) h Q) ∧
  (∀ (x0 : Nat) (x1 : Int32) (x2 : Int32) (x3 : Int32) (y1 : Int32) (y0 : Nat) (h : AH) (Q : Option Value → AH → Prop) (ht : hT h y0 = 4), WP 120 18 [.ref x0, .int x1, .int x2, .int x3] ([.ref y0, .int y1]) h Q ↔ WPM 25 [.ref y0] h (fun r h' => WP 120 21 [.ref x0, .int x1, .int x2, .int x3] (r.toList ++ [.int y1]) h' Q)) ∧
  (∀ (x0 : Nat) (x1 : Int32) (x2 : Int32) (x3 : Int32) (y0 : Int32) (y1 : Int32) (st : List Value) (h : AH) (Q : Option Value → AH → Prop), WP 120 21 [.ref x0, .int x1, .int x2, .int x3] (.int y0 :: .int y1 :: st) h Q ↔ ((y1 < y0 → WP 120 26 [.ref x0, .int x1, .int x2, .int x3] (st) h Q) ∧ (¬ y1 < y0 → WP 120 24 [.ref x0, .int x1, .int x2, .int x3] (st) h Q))) ∧
  (∀ (x0 : Nat) (x1 : Int32) (x2 : Int32) (x3 : Int32) (st : List Value) (h : AH) (Q : Option Value → AH → Prop), WP 120 24 [.ref x0, .int x1, .int x2, .int x3] (st) h Q ↔ WP 120 25 [.ref x0, .int x1, .int x2, .int x3] (.int (-1) :: st) h Q) ∧
  (∀ (x0 : Nat) (x1 : Int32) (x2 : Int32) (x3 : Int32) (y0 : Int32) (h : AH) (Q : Option Value → AH → Prop), WP 120 25 [.ref x0, .int x1, .int x2, .int x3] ([.int y0]) h Q ↔ Q (some (.int y0)) h) ∧
  (∀ (x0 : Nat) (x1 : Int32) (x2 : Int32) (x3 : Int32) (st : List Value) (h : AH) (Q : Option Value → AH → Prop), WP 120 26 [.ref x0, .int x1, .int x2, .int x3] (st) h Q ↔ WP 120 27 [.ref x0, .int x1, .int x2, .int x3] (.ref x0 :: st) h Q) ∧
  (∀ (x0 : Nat) (x1 : Int32) (x2 : Int32) (x3 : Int32) (y0 : Nat) (st : List Value) (h : AH) (Q : Option Value → AH → Prop) (ht : hT h y0 = 12), WP 120 27 [.ref x0, .int x1, .int x2, .int x3] (.ref y0 :: st) h Q ↔ WP 120 30 [.ref x0, .int x1, .int x2, .int x3] (.ref (hR h y0 6) :: st) h Q) ∧
  (∀ (x0 : Nat) (x1 : Int32) (x2 : Int32) (x3 : Int32) (st : List Value) (h : AH) (Q : Option Value → AH → Prop), WP 120 30 [.ref x0, .int x1, .int x2, .int x3] (st) h Q ↔ WP 120 31 [.ref x0, .int x1, .int x2, .int x3] (.ref x0 :: st) h Q) ∧
  (∀ (x0 : Nat) (x1 : Int32) (x2 : Int32) (x3 : Int32) (y0 : Nat) (st : List Value) (h : AH) (Q : Option Value → AH → Prop) (ht : hT h y0 = 12), WP 120 31 [.ref x0, .int x1, .int x2, .int x3] (.ref y0 :: st) h Q ↔ WP 120 34 [.ref x0, .int x1, .int x2, .int x3] (.ref (hR h y0 2) :: st) h Q) ∧
  (∀ (x0 : Nat) (x1 : Int32) (x2 : Int32) (x3 : Int32) (st : List Value) (h : AH) (Q : Option Value → AH → Prop), WP 120 34 [.ref x0, .int x1, .int x2, .int x3] (st) h Q ↔ WP 120 35 [.ref x0, .int x1, .int x2, .int x3] (.int x1 :: st) h Q) ∧
  (∀ (x0 : Nat) (x1 : Int32) (x2 : Int32) (x3 : Int32) (st : List Value) (h : AH) (Q : Option Value → AH → Prop), WP 120 35 [.ref x0, .int x1, .int x2, .int x3] (st) h Q ↔ WP 120 36 [.ref x0, .int x1, .int x2, .int x3] (.int x2 :: st) h Q) ∧
  (∀ (x0 : Nat) (x1 : Int32) (x2 : Int32) (x3 : Int32) (st : List Value) (h : AH) (Q : Option Value → AH → Prop), WP 120 36 [.ref x0, .int x1, .int x2, .int x3] (st) h Q ↔ WP 120 37 [.ref x0, .int x1, .int x2, .int x3] (.int x3 :: st) h Q) ∧
  (∀ (x0 : Nat) (x1 : Int32) (x2 : Int32) (x3 : Int32) (y4 : Nat) (y3 : Nat) (y2 : Int32) (y1 : Int32) (y0 : Int32) (h : AH) (Q : Option Value → AH → Prop) (ht : hT h y4 = 7), WP 120 37 [.ref x0, .int x1, .int x2, .int x3] ([.int y0, .int y1, .int y2, .ref y3, .ref y4]) h Q ↔ WPM 54 [.ref y4, .ref y3, .int y2, .int y1, .int y0] h (fun r h' => WP 120 40 [.ref x0, .int x1, .int x2, .int x3] (r.toList ++ []) h' Q)) ∧
  (∀ (x0 : Nat) (x1 : Int32) (x2 : Int32) (x3 : Int32) (y0 : Int32) (st : List Value) (h : AH) (Q : Option Value → AH → Prop), WP 120 40 [.ref x0, .int x1, .int x2, .int x3] (.int y0 :: st) h Q ↔ ((y0 = 0 → WP 120 47 [.ref x0, .int x1, .int x2, .int x3] (st) h Q) ∧ (¬ y0 = 0 → WP 120 43 [.ref x0, .int x1, .int x2, .int x3] (st) h Q))) ∧
  (∀ (x0 : Nat) (x1 : Int32) (x2 : Int32) (x3 : Int32) (st : List Value) (h : AH) (Q : Option Value → AH → Prop), WP 120 43 [.ref x0, .int x1, .int x2, .int x3] (st) h Q ↔ WP 120 44 [.ref x0, .int x1, .int x2, .int x3] (.int (1) :: st) h Q) ∧
  (∀ (x0 : Nat) (x1 : Int32) (x2 : Int32) (x3 : Int32) (st : List Value) (h : AH) (Q : Option Value → AH → Prop), WP 120 44 [.ref x0, .int x1, .int x2, .int x3] (st) h Q ↔ WP 120 48 [.ref x0, .int x1, .int x2, .int x3] (st) h Q) ∧
  (∀ (x0 : Nat) (x1 : Int32) (x2 : Int32) (x3 : Int32) (st : List Value) (h : AH) (Q : Option Value → AH → Prop), WP 120 47 [.ref x0, .int x1, .int x2, .int x3] (st) h Q ↔ WP 120 48 [.ref x0, .int x1, .int x2, .int x3] (.int (0) :: st) h Q) ∧
  (∀ (x0 : Nat) (x1 : Int32) (x2 : Int32) (x3 : Int32) (y0 : Int32) (h : AH) (Q : Option Value → AH → Prop), WP 120 48 [.ref x0, .int x1, .int x2, .int x3] ([.int y0]) h Q ↔ Q (some (.int y0)) h) :=
  ⟨fun _ _ _ _ _ _ _ => WP_s (show ct 120 0 = some (.aload_n 0, 0, []) by decide +kernel) rfl,
  fun _ _ _ _ _ _ _ => WP_s (show ct 120 1 = some (.iload_n 1, 0, []) by decide +kernel) rfl,
  fun _ _ _ _ _ _ _ => WP_s (show ct 120 2 = some (.iload_n 2, 0, []) by decide +kernel) rfl,
  fun _ _ _ _ _ _ _ _ _ ht => WC_1 (show ct 120 3 = some (.invokevirtual 167, 3, [137, 3, 1, 12, 0, 840, 842, 25]) by decide +kernel) (Nat.le_of_ble_eq_true rfl) (Nat.le_of_ble_eq_true rfl) rfl rfl ht,
  fun _ _ _ _ _ _ _ _ => WZ_eq (show ct 120 6 = some (.ifCond .eq 18, 0, [24]) by decide +kernel) (by decide),
  fun _ _ _ _ _ _ _ => WP_s (show ct 120 9 = some (.iload_n 3, 0, []) by decide +kernel) rfl,
  fun _ _ _ _ _ _ _ _ => WZ_lt (show ct 120 10 = some (.ifCond .lt 14, 0, [24]) by decide +kernel) (by decide),
  fun _ _ _ _ _ _ _ => WP_s (show ct 120 13 = some (.iload_n 3, 0, []) by decide +kernel) rfl,
  fun _ _ _ _ _ _ _ => WP_s (show ct 120 14 = some (.aload_n 0, 0, []) by decide +kernel) rfl,
  fun _ _ _ _ _ _ _ _ ht => WH_gR (show ct 120 15 = some (.getfield 16, 1, [11, 2, 2, 576]) by decide +kernel) ht,
  fun _ _ _ _ _ _ _ _ ht => WC_1 (show ct 120 18 = some (.invokevirtual 189, 3, [25, 1, 1, 4, 0, 962, 782, 783]) by decide +kernel) (Nat.le_of_ble_eq_true rfl) (Nat.le_of_ble_eq_true rfl) rfl rfl ht,
  fun _ _ _ _ _ _ _ _ _ => WI_lt (show ct 120 21 = some (.if_icmp .lt 5, 0, [26]) by decide +kernel) (by decide),
  fun _ _ _ _ _ _ _ => WP_s (show ct 120 24 = some (.iconst (-1), 0, []) by decide +kernel) rfl,
  fun _ _ _ _ _ _ _ => WR_i (show ct 120 25 = some (.ireturn, 2, [0]) by decide +kernel),
  fun _ _ _ _ _ _ _ => WP_s (show ct 120 26 = some (.aload_n 0, 0, []) by decide +kernel) rfl,
  fun _ _ _ _ _ _ _ _ ht => WH_gR (show ct 120 27 = some (.getfield 48, 1, [11, 6, 2, 580]) by decide +kernel) ht,
  fun _ _ _ _ _ _ _ => WP_s (show ct 120 30 = some (.aload_n 0, 0, []) by decide +kernel) rfl,
  fun _ _ _ _ _ _ _ _ ht => WH_gR (show ct 120 31 = some (.getfield 16, 1, [11, 2, 2, 576]) by decide +kernel) ht,
  fun _ _ _ _ _ _ _ => WP_s (show ct 120 34 = some (.iload_n 1, 0, []) by decide +kernel) rfl,
  fun _ _ _ _ _ _ _ => WP_s (show ct 120 35 = some (.iload_n 2, 0, []) by decide +kernel) rfl,
  fun _ _ _ _ _ _ _ => WP_s (show ct 120 36 = some (.iload_n 3, 0, []) by decide +kernel) rfl,
  fun _ _ _ _ _ _ _ _ _ _ _ ht => WC_1 (show ct 120 37 = some (.invokevirtual 192, 3, [54, 5, 1, 7, 0, 963, 964, 965]) by decide +kernel) (Nat.le_of_ble_eq_true rfl) (Nat.le_of_ble_eq_true rfl) rfl rfl ht,
  fun _ _ _ _ _ _ _ _ => WZ_eq (show ct 120 40 = some (.ifCond .eq 7, 0, [47]) by decide +kernel) (by decide),
  fun _ _ _ _ _ _ _ => WP_s (show ct 120 43 = some (.iconst 1, 0, []) by decide +kernel) rfl,
  fun _ _ _ _ _ _ _ => WP_s (show ct 120 44 = some (.goto 4, 0, [48]) by decide +kernel) rfl,
  fun _ _ _ _ _ _ _ => WP_s (show ct 120 47 = some (.iconst 0, 0, []) by decide +kernel) rfl,
  fun _ _ _ _ _ _ _ => WR_i (show ct 120 48 = some (.ireturn, 2, [0]) by decide +kernel)⟩
/-! 121: FewBowls.once(I)I; loop heads [] -/
set_option maxRecDepth 10000 in
theorem w121 : (∀ (x0 : Nat) (x1 : Int32) (st : List Value) (h : AH) (Q : Option Value → AH → Prop), WP 121 0 [.ref x0, .int x1] (st) h Q ↔ WP 121 1 [.ref x0, .int x1] (.ref x0 :: st) h Q) ∧
  (∀ (x0 : Nat) (x1 : Int32) (st : List Value) (h : AH) (Q : Option Value → AH → Prop), WP 121 1 [.ref x0, .int x1] (st) h Q ↔ WP 121 2 [.ref x0, .int x1] (.int x1 :: st) h Q) ∧
  (∀ (x0 : Nat) (x1 : Int32) (y1 : Nat) (y0 : Int32) (h : AH) (Q : Option Value → AH → Prop) (ht : hT h y1 = 12), WP 121 2 [.ref x0, .int x1] ([.int y0, .ref y1]) h Q ↔ WPM 138 [.ref y1, .int y0] h (fun r h' => WP 121 5 [.ref x0, .int x1] (r.toList ++ []) h' Q)) ∧
  (∀ (x0 : Nat) (x1 : Int32) (y0 : Int32) (st : List Value) (h : AH) (Q : Option Value → AH → Prop), WP 121 5 [.ref x0, .int x1] (.int y0 :: st) h Q ↔ ((y0 = 0 → WP 121 23 [.ref x0, .int x1] (st) h Q) ∧ (¬ y0 = 0 → WP 121 8 [.ref x0, .int x1] (st) h Q))) ∧
  (∀ (x0 : Nat) (x1 : Int32) (st : List Value) (h : AH) (Q : Option Value → AH → Prop), WP 121 8 [.ref x0, .int x1] (st) h Q ↔ WP 121 9 [.ref x0, .int x1] (.ref x0 :: st) h Q) ∧
  (∀ (x0 : Nat) (x1 : Int32) (y0 : Nat) (st : List Value) (h : AH) (Q : Option Value → AH → Prop) (ht : hT h y0 = 12), WP 121 9 [.ref x0, .int x1] (.ref y0 :: st) h Q ↔ WP 121 12 [.ref x0, .int x1] (.ref (hR h y0 9) :: st) h Q) ∧
  (∀ (x0 : Nat) (x1 : Int32) (st : List Value) (h : AH) (Q : Option Value → AH → Prop), WP 121 12 [.ref x0, .int x1] (st) h Q ↔ WP 121 13 [.ref x0, .int x1] (.ref x0 :: st) h Q) ∧
  (∀ (x0 : Nat) (x1 : Int32) (y0 : Nat) (st : List Value) (h : AH) (Q : Option Value → AH → Prop) (ht : hT h y0 = 12), WP 121 13 [.ref x0, .int x1] (.ref y0 :: st) h Q ↔ WP 121 16 [.ref x0, .int x1] (.ref (hR h y0 2) :: st) h Q) ∧
  (∀ (x0 : Nat) (x1 : Int32) (st : List Value) (h : AH) (Q : Option Value → AH → Prop), WP 121 16 [.ref x0, .int x1] (st) h Q ↔ WP 121 17 [.ref x0, .int x1] (.int x1 :: st) h Q) ∧
  (∀ (x0 : Nat) (x1 : Int32) (y2 : Nat) (y1 : Nat) (y0 : Int32) (h : AH) (Q : Option Value → AH → Prop) (ht : hT h y2 = 5), WP 121 17 [.ref x0, .int x1] ([.int y0, .ref y1, .ref y2]) h Q ↔ WPM 34 [.ref y2, .ref y1, .int y0] h (fun r h' => WP 121 20 [.ref x0, .int x1] (r.toList ++ []) h' Q)) ∧
  (∀ (x0 : Nat) (x1 : Int32) (st : List Value) (h : AH) (Q : Option Value → AH → Prop), WP 121 20 [.ref x0, .int x1] (st) h Q ↔ WP 121 24 [.ref x0, .int x1] (st) h Q) ∧
  (∀ (x0 : Nat) (x1 : Int32) (st : List Value) (h : AH) (Q : Option Value → AH → Prop), WP 121 23 [.ref x0, .int x1] (st) h Q ↔ WP 121 24 [.ref x0, .int x1] (.int (-1) :: st) h Q) ∧
  (∀ (x0 : Nat) (x1 : Int32) (y0 : Int32) (h : AH) (Q : Option Value → AH → Prop), WP 121 24 [.ref x0, .int x1] ([.int y0]) h Q ↔ Q (some (.int y0)) h) :=
  ⟨fun _ _ _ _ _ => WP_s (show ct 121 0 = some (.aload_n 0, 0, []) by decide +kernel) rfl,
  fun _ _ _ _ _ => WP_s (show ct 121 1 = some (.iload_n 1, 0, []) by decide +kernel) rfl,
  fun _ _ _ _ _ _ ht => WC_1 (show ct 121 2 = some (.invokevirtual 196, 3, [138, 2, 1, 12, 0, 971, 973, 36]) by decide +kernel) (Nat.le_of_ble_eq_true rfl) (Nat.le_of_ble_eq_true rfl) rfl rfl ht,
  fun _ _ _ _ _ _ => WZ_eq (show ct 121 5 = some (.ifCond .eq 18, 0, [23]) by decide +kernel) (by decide),
  fun _ _ _ _ _ => WP_s (show ct 121 8 = some (.aload_n 0, 0, []) by decide +kernel) rfl,
  fun _ _ _ _ _ _ ht => WH_gR (show ct 121 9 = some (.getfield 71, 1, [11, 9, 2, 583]) by decide +kernel) ht,
  fun _ _ _ _ _ => WP_s (show ct 121 12 = some (.aload_n 0, 0, []) by decide +kernel) rfl,
  fun _ _ _ _ _ _ ht => WH_gR (show ct 121 13 = some (.getfield 16, 1, [11, 2, 2, 576]) by decide +kernel) ht,
  fun _ _ _ _ _ => WP_s (show ct 121 16 = some (.iload_n 1, 0, []) by decide +kernel) rfl,
  fun _ _ _ _ _ _ _ ht => WC_1 (show ct 121 17 = some (.invokevirtual 199, 3, [34, 3, 1, 5, 0, 975, 976, 977]) by decide +kernel) (Nat.le_of_ble_eq_true rfl) (Nat.le_of_ble_eq_true rfl) rfl rfl ht,
  fun _ _ _ _ _ => WP_s (show ct 121 20 = some (.goto 4, 0, [24]) by decide +kernel) rfl,
  fun _ _ _ _ _ => WP_s (show ct 121 23 = some (.iconst (-1), 0, []) by decide +kernel) rfl,
  fun _ _ _ _ _ => WR_i (show ct 121 24 = some (.ireturn, 2, [0]) by decide +kernel)⟩
/-! 122: FewBowls.onceMany()J; loop heads [] -/
set_option maxRecDepth 10000 in
theorem w122 : (∀ (x0 : Nat) (st : List Value) (h : AH) (Q : Option Value → AH → Prop), WP 122 0 [.ref x0] (st) h Q ↔ WP 122 1 [.ref x0] (.ref x0 :: st) h Q) ∧
  (∀ (x0 : Nat) (y0 : Nat) (st : List Value) (h : AH) (Q : Option Value → AH → Prop) (ht : hT h y0 = 12), WP 122 1 [.ref x0] (.ref y0 :: st) h Q ↔ WP 122 4 [.ref x0] (.ref (hR h y0 9) :: st) h Q) ∧
  (∀ (x0 : Nat) (y0 : Nat) (st : List Value) (h : AH) (Q : Option Value → AH → Prop) (ht : hT h y0 = 5), WP 122 4 [.ref x0] (.ref y0 :: st) h Q ↔ WP 122 7 [.ref x0] (.long (hJ h y0 7) :: st) h Q) ∧
  (∀ (x0 : Nat) (y0 : Int64) (h : AH) (Q : Option Value → AH → Prop), WP 122 7 [.ref x0] ([.long y0]) h Q ↔ Q (some (.long y0)) h) :=
  ⟨fun _ _ _ _ => WP_s (show ct 122 0 = some (.aload_n 0, 0, []) by decide +kernel) rfl,
  fun _ _ _ _ _ ht => WH_gR (show ct 122 1 = some (.getfield 71, 1, [11, 9, 2, 583]) by decide +kernel) ht,
  fun _ _ _ _ _ ht => WH_gJ (show ct 122 4 = some (.getfield 202, 1, [4, 7, 1, 534]) by decide +kernel) ht,
  fun _ _ _ _ => WR_l (show ct 122 7 = some (.lreturn, 2, [0]) by decide +kernel)⟩
/-! 123: FewBowls.onceAt(I)I; loop heads [] -/
set_option maxRecDepth 10000 in
theorem w123 : (∀ (x0 : Nat) (x1 : Int32) (st : List Value) (h : AH) (Q : Option Value → AH → Prop), WP 123 0 [.ref x0, .int x1] (st) h Q ↔ WP 123 1 [.ref x0, .int x1] (.int x1 :: st) h Q) ∧
  (∀ (x0 : Nat) (x1 : Int32) (y0 : Int32) (st : List Value) (h : AH) (Q : Option Value → AH → Prop), WP 123 1 [.ref x0, .int x1] (.int y0 :: st) h Q ↔ ((y0 < 0 → WP 123 27 [.ref x0, .int x1] (st) h Q) ∧ (¬ y0 < 0 → WP 123 4 [.ref x0, .int x1] (st) h Q))) ∧
  (∀ (x0 : Nat) (x1 : Int32) (st : List Value) (h : AH) (Q : Option Value → AH → Prop), WP 123 4 [.ref x0, .int x1] (st) h Q ↔ WP 123 5 [.ref x0, .int x1] (.int x1 :: st) h Q) ∧
  (∀ (x0 : Nat) (x1 : Int32) (st : List Value) (h : AH) (Q : Option Value → AH → Prop), WP 123 5 [.ref x0, .int x1] (st) h Q ↔ WP 123 6 [.ref x0, .int x1] (.ref x0 :: st) h Q) ∧
  (∀ (x0 : Nat) (x1 : Int32) (y0 : Nat) (st : List Value) (h : AH) (Q : Option Value → AH → Prop) (ht : hT h y0 = 12), WP 123 6 [.ref x0, .int x1] (.ref y0 :: st) h Q ↔ WP 123 9 [.ref x0, .int x1] (.ref (hR h y0 9) :: st) h Q) ∧
  (∀ (x0 : Nat) (x1 : Int32) (y0 : Nat) (st : List Value) (h : AH) (Q : Option Value → AH → Prop) (ht : hT h y0 = 5), WP 123 9 [.ref x0, .int x1] (.ref y0 :: st) h Q ↔ WP 123 12 [.ref x0, .int x1] (.int (hI h y0 6) :: st) h Q) ∧
  (∀ (x0 : Nat) (x1 : Int32) (y0 : Int32) (y1 : Int32) (st : List Value) (h : AH) (Q : Option Value → AH → Prop), WP 123 12 [.ref x0, .int x1] (.int y0 :: .int y1 :: st) h Q ↔ ((y0 ≤ y1 → WP 123 27 [.ref x0, .int x1] (st) h Q) ∧ (¬ y0 ≤ y1 → WP 123 15 [.ref x0, .int x1] (st) h Q))) ∧
  (∀ (x0 : Nat) (x1 : Int32) (st : List Value) (h : AH) (Q : Option Value → AH → Prop), WP 123 15 [.ref x0, .int x1] (st) h Q ↔ WP 123 16 [.ref x0, .int x1] (.ref x0 :: st) h Q) ∧
  (∀ (x0 : Nat) (x1 : Int32) (y0 : Nat) (st : List Value) (h : AH) (Q : Option Value → AH → Prop) (ht : hT h y0 = 12), WP 123 16 [.ref x0, .int x1] (.ref y0 :: st) h Q ↔ WP 123 19 [.ref x0, .int x1] (.ref (hR h y0 9) :: st) h Q) ∧
  (∀ (x0 : Nat) (x1 : Int32) (y0 : Nat) (st : List Value) (h : AH) (Q : Option Value → AH → Prop) (ht : hT h y0 = 5), WP 123 19 [.ref x0, .int x1] (.ref y0 :: st) h Q ↔ WP 123 22 [.ref x0, .int x1] (.ref (hR h y0 5) :: st) h Q) ∧
  (∀ (x0 : Nat) (x1 : Int32) (st : List Value) (h : AH) (Q : Option Value → AH → Prop), WP 123 22 [.ref x0, .int x1] (st) h Q ↔ WP 123 23 [.ref x0, .int x1] (.int x1 :: st) h Q) ∧
  (∀ (x0 : Nat) (x1 : Int32) (y0 : Int32) (y1 : Nat) (st : List Value) (h : AH) (Q : Option Value → AH → Prop) (ht : hT h y1 = 100 ∨ hT h y1 = 110) (hi : inb y0 (hL h y1) = true), WP 123 23 [.ref x0, .int x1] (.int y0 :: .ref y1 :: st) h Q ↔ WP 123 24 [.ref x0, .int x1] (.int (hI h y1 y0.toNatClampNeg) :: st) h Q) ∧
  (∀ (x0 : Nat) (x1 : Int32) (st : List Value) (h : AH) (Q : Option Value → AH → Prop), WP 123 24 [.ref x0, .int x1] (st) h Q ↔ WP 123 28 [.ref x0, .int x1] (st) h Q) ∧
  (∀ (x0 : Nat) (x1 : Int32) (st : List Value) (h : AH) (Q : Option Value → AH → Prop), WP 123 27 [.ref x0, .int x1] (st) h Q ↔ WP 123 28 [.ref x0, .int x1] (.int (-1) :: st) h Q) ∧
  (∀ (x0 : Nat) (x1 : Int32) (y0 : Int32) (h : AH) (Q : Option Value → AH → Prop), WP 123 28 [.ref x0, .int x1] ([.int y0]) h Q ↔ Q (some (.int y0)) h) :=
  ⟨fun _ _ _ _ _ => WP_s (show ct 123 0 = some (.iload_n 1, 0, []) by decide +kernel) rfl,
  fun _ _ _ _ _ _ => WZ_lt (show ct 123 1 = some (.ifCond .lt 26, 0, [27]) by decide +kernel) (by decide),
  fun _ _ _ _ _ => WP_s (show ct 123 4 = some (.iload_n 1, 0, []) by decide +kernel) rfl,
  fun _ _ _ _ _ => WP_s (show ct 123 5 = some (.aload_n 0, 0, []) by decide +kernel) rfl,
  fun _ _ _ _ _ _ ht => WH_gR (show ct 123 6 = some (.getfield 71, 1, [11, 9, 2, 583]) by decide +kernel) ht,
  fun _ _ _ _ _ _ ht => WH_gI (show ct 123 9 = some (.getfield 203, 1, [4, 6, 0, 532]) by decide +kernel) (by decide) ht,
  fun _ _ _ _ _ _ _ => WI_ge (show ct 123 12 = some (.if_icmp .ge 15, 0, [27]) by decide +kernel) (by decide),
  fun _ _ _ _ _ => WP_s (show ct 123 15 = some (.aload_n 0, 0, []) by decide +kernel) rfl,
  fun _ _ _ _ _ _ ht => WH_gR (show ct 123 16 = some (.getfield 71, 1, [11, 9, 2, 583]) by decide +kernel) ht,
  fun _ _ _ _ _ _ ht => WH_gR (show ct 123 19 = some (.getfield 204, 1, [4, 5, 2, 530]) by decide +kernel) ht,
  fun _ _ _ _ _ => WP_s (show ct 123 22 = some (.iload_n 1, 0, []) by decide +kernel) rfl,
  fun _ _ _ _ _ _ _ ht hi => WH_iald (show ct 123 23 = some (.iaload, 1, []) by decide +kernel) ht hi,
  fun _ _ _ _ _ => WP_s (show ct 123 24 = some (.goto 4, 0, [28]) by decide +kernel) rfl,
  fun _ _ _ _ _ => WP_s (show ct 123 27 = some (.iconst (-1), 0, []) by decide +kernel) rfl,
  fun _ _ _ _ _ => WR_i (show ct 123 28 = some (.ireturn, 2, [0]) by decide +kernel)⟩
/-! 124: FewBowls.order(I)I; loop heads [] -/
set_option maxRecDepth 10000 in
theorem w124 : (∀ (x0 : Nat) (x1 : Int32) (st : List Value) (h : AH) (Q : Option Value → AH → Prop), WP 124 0 [.ref x0, .int x1, .retAddr 0] (st) h Q ↔ WP 124 1 [.ref x0, .int x1, .retAddr 0] (.ref x0 :: st) h Q) ∧
  (∀ (x0 : Nat) (x1 : Int32) (y0 : Nat) (h : AH) (Q : Option Value → AH → Prop) (ht : hT h y0 = 12), WP 124 1 [.ref x0, .int x1, .retAddr 0] ([.ref y0]) h Q ↔ WPM 109 [.ref y0] h (fun r h' => WP 124 4 [.ref x0, .int x1, .retAddr 0] (r.toList ++ []) h' Q)) ∧
  (∀ (x0 : Nat) (x1 : Int32) (y0 : Int32) (st : List Value) (h : AH) (Q : Option Value → AH → Prop), WP 124 4 [.ref x0, .int x1, .retAddr 0] (.int y0 :: st) h Q ↔ WP 124 5 [.ref x0, .int x1, .int y0] (st) h Q) ∧
  (∀ (x0 : Nat) (x1 : Int32) (x2 : Int32) (st : List Value) (h : AH) (Q : Option Value → AH → Prop), WP 124 5 [.ref x0, .int x1, .int x2] (st) h Q ↔ WP 124 6 [.ref x0, .int x1, .int x2] (.ref x0 :: st) h Q) ∧
  (∀ (x0 : Nat) (x1 : Int32) (x2 : Int32) (st : List Value) (h : AH) (Q : Option Value → AH → Prop), WP 124 6 [.ref x0, .int x1, .int x2] (st) h Q ↔ WP 124 7 [.ref x0, .int x1, .int x2] (.int x1 :: st) h Q) ∧
  (∀ (x0 : Nat) (x1 : Int32) (x2 : Int32) (y1 : Nat) (y0 : Int32) (h : AH) (Q : Option Value → AH → Prop) (ht : hT h y1 = 12), WP 124 7 [.ref x0, .int x1, .int x2] ([.int y0, .ref y1]) h Q ↔ WPM 138 [.ref y1, .int y0] h (fun r h' => WP 124 10 [.ref x0, .int x1, .int x2] (r.toList ++ []) h' Q)) ∧
  (∀ (x0 : Nat) (x1 : Int32) (x2 : Int32) (y0 : Int32) (st : List Value) (h : AH) (Q : Option Value → AH → Prop), WP 124 10 [.ref x0, .int x1, .int x2] (.int y0 :: st) h Q ↔ ((y0 = 0 → WP 124 33 [.ref x0, .int x1, .int x2] (st) h Q) ∧ (¬ y0 = 0 → WP 124 13 [.ref x0, .int x1, .int x2] (st) h Q))) ∧
  (∀ (x0 : Nat) (x1 : Int32) (x2 : Int32) (st : List Value) (h : AH) (Q : Option Value → AH → Prop), WP 124 13 [.ref x0, .int x1, .int x2] (st) h Q ↔ WP 124 14 [.ref x0, .int x1, .int x2] (.ref x0 :: st) h Q) ∧
  (∀ (x0 : Nat) (x1 : Int32) (x2 : Int32) (y0 : Nat) (st : List Value) (h : AH) (Q : Option Value → AH → Prop) (ht : hT h y0 = 12), WP 124 14 [.ref x0, .int x1, .int x2] (.ref y0 :: st) h Q ↔ WP 124 17 [.ref x0, .int x1, .int x2] (.ref (hR h y0 9) :: st) h Q) ∧
  (∀ (x0 : Nat) (x1 : Int32) (x2 : Int32) (st : List Value) (h : AH) (Q : Option Value → AH → Prop), WP 124 17 [.ref x0, .int x1, .int x2] (st) h Q ↔ WP 124 18 [.ref x0, .int x1, .int x2] (.ref x0 :: st) h Q) ∧
  (∀ (x0 : Nat) (x1 : Int32) (x2 : Int32) (y0 : Nat) (st : List Value) (h : AH) (Q : Option Value → AH → Prop) (ht : hT h y0 = 12), WP 124 18 [.ref x0, .int x1, .int x2] (.ref y0 :: st) h Q ↔ WP 124 21 [.ref x0, .int x1, .int x2] (.ref (hR h y0 2) :: st) h Q) ∧
  (∀ (x0 : Nat) (x1 : Int32) (x2 : Int32) (st : List Value) (h : AH) (Q : Option Value → AH → Prop), WP 124 21 [.ref x0, .int x1, .int x2] (st) h Q ↔ WP 124 22 [.ref x0, .int x1, .int x2] (.int x1 :: st) h Q) ∧
  (∀ (x0 : Nat) (x1 : Int32) (x2 : Int32) (st : List Value) (h : AH) (Q : Option Value → AH → Prop), WP 124 22 [.ref x0, .int x1, .int x2] (st) h Q ↔ WP 124 23 [.ref x0, .int x1, .int x2] (.ref x0 :: st) h Q) ∧
  (∀ (x0 : Nat) (x1 : Int32) (x2 : Int32) (y0 : Nat) (st : List Value) (h : AH) (Q : Option Value → AH → Prop) (ht : hT h y0 = 12), WP 124 23 [.ref x0, .int x1, .int x2] (.ref y0 :: st) h Q ↔ WP 124 26 [.ref x0, .int x1, .int x2] (.ref (hR h y0 0) :: st) h Q) ∧
  (∀ (x0 : Nat) (x1 : Int32) (x2 : Int32) (st : List Value) (h : AH) (Q : Option Value → AH → Prop), WP 124 26 [.ref x0, .int x1, .int x2] (st) h Q ↔ WP 124 27 [.ref x0, .int x1, .int x2] (.int x2 :: st) h Q) ∧
  (∀ (x0 : Nat) (x1 : Int32) (x2 : Int32) (y4 : Nat) (y3 : Nat) (y2 : Int32) (y1 : Nat) (y0 : Int32) (h : AH) (Q : Option Value → AH → Prop) (ht : hT h y4 = 5), WP 124 27 [.ref x0, .int x1, .int x2] ([.int y0, .ref y1, .int y2, .ref y3, .ref y4]) h Q ↔ WPM 40 [.ref y4, .ref y3, .int y2, .ref y1, .int y0] h (fun r h' => WP 124 30 [.ref x0, .int x1, .int x2] (r.toList ++ []) h' Q)) ∧
  (∀ (x0 : Nat) (x1 : Int32) (x2 : Int32) (st : List Value) (h : AH) (Q : Option Value → AH → Prop), WP 124 30 [.ref x0, .int x1, .int x2] (st) h Q ↔ WP 124 34 [.ref x0, .int x1, .int x2] (st) h Q) ∧
  (∀ (x0 : Nat) (x1 : Int32) (x2 : Int32) (st : List Value) (h : AH) (Q : Option Value → AH → Prop), WP 124 33 [.ref x0, .int x1, .int x2] (st) h Q ↔ WP 124 34 [.ref x0, .int x1, .int x2] (.int (-1) :: st) h Q) ∧
  (∀ (x0 : Nat) (x1 : Int32) (x2 : Int32) (y0 : Int32) (h : AH) (Q : Option Value → AH → Prop), WP 124 34 [.ref x0, .int x1, .int x2] ([.int y0]) h Q ↔ Q (some (.int y0)) h) :=
  ⟨fun _ _ _ _ _ => WP_s (show ct 124 0 = some (.aload_n 0, 0, []) by decide +kernel) rfl,
  fun _ _ _ _ _ ht => WC_1 (show ct 124 1 = some (.invokevirtual 90, 3, [109, 1, 1, 12, 0, 624, 626, 1]) by decide +kernel) (Nat.le_of_ble_eq_true rfl) (Nat.le_of_ble_eq_true rfl) rfl rfl ht,
  fun _ _ _ _ _ _ => WP_s (show ct 124 4 = some (.istore_n 2, 0, []) by decide +kernel) rfl,
  fun _ _ _ _ _ _ => WP_s (show ct 124 5 = some (.aload_n 0, 0, []) by decide +kernel) rfl,
  fun _ _ _ _ _ _ => WP_s (show ct 124 6 = some (.iload_n 1, 0, []) by decide +kernel) rfl,
  fun _ _ _ _ _ _ _ ht => WC_1 (show ct 124 7 = some (.invokevirtual 196, 3, [138, 2, 1, 12, 0, 971, 973, 36]) by decide +kernel) (Nat.le_of_ble_eq_true rfl) (Nat.le_of_ble_eq_true rfl) rfl rfl ht,
  fun _ _ _ _ _ _ _ => WZ_eq (show ct 124 10 = some (.ifCond .eq 23, 0, [33]) by decide +kernel) (by decide),
  fun _ _ _ _ _ _ => WP_s (show ct 124 13 = some (.aload_n 0, 0, []) by decide +kernel) rfl,
  fun _ _ _ _ _ _ _ ht => WH_gR (show ct 124 14 = some (.getfield 71, 1, [11, 9, 2, 583]) by decide +kernel) ht,
  fun _ _ _ _ _ _ => WP_s (show ct 124 17 = some (.aload_n 0, 0, []) by decide +kernel) rfl,
  fun _ _ _ _ _ _ _ ht => WH_gR (show ct 124 18 = some (.getfield 16, 1, [11, 2, 2, 576]) by decide +kernel) ht,
  fun _ _ _ _ _ _ => WP_s (show ct 124 21 = some (.iload_n 1, 0, []) by decide +kernel) rfl,
  fun _ _ _ _ _ _ => WP_s (show ct 124 22 = some (.aload_n 0, 0, []) by decide +kernel) rfl,
  fun _ _ _ _ _ _ _ ht => WH_gR (show ct 124 23 = some (.getfield 9, 1, [11, 0, 2, 574]) by decide +kernel) ht,
  fun _ _ _ _ _ _ => WP_s (show ct 124 26 = some (.iload_n 2, 0, []) by decide +kernel) rfl,
  fun _ _ _ _ _ _ _ _ _ _ ht => WC_1 (show ct 124 27 = some (.invokevirtual 207, 3, [40, 5, 1, 5, 0, 1029, 1030, 1031]) by decide +kernel) (Nat.le_of_ble_eq_true rfl) (Nat.le_of_ble_eq_true rfl) rfl rfl ht,
  fun _ _ _ _ _ _ => WP_s (show ct 124 30 = some (.goto 4, 0, [34]) by decide +kernel) rfl,
  fun _ _ _ _ _ _ => WP_s (show ct 124 33 = some (.iconst (-1), 0, []) by decide +kernel) rfl,
  fun _ _ _ _ _ _ => WR_i (show ct 124 34 = some (.ireturn, 2, [0]) by decide +kernel)⟩
/-! 125: FewBowls.carry(I)I; loop heads [] -/
set_option maxRecDepth 10000 in
theorem w125 : (∀ (x0 : Nat) (x1 : Int32) (st : List Value) (h : AH) (Q : Option Value → AH → Prop), WP 125 0 [.ref x0, .int x1] (st) h Q ↔ WP 125 1 [.ref x0, .int x1] (.ref x0 :: st) h Q) ∧
  (∀ (x0 : Nat) (x1 : Int32) (st : List Value) (h : AH) (Q : Option Value → AH → Prop), WP 125 1 [.ref x0, .int x1] (st) h Q ↔ WP 125 2 [.ref x0, .int x1] (.int x1 :: st) h Q) ∧
  (∀ (x0 : Nat) (x1 : Int32) (y1 : Nat) (y0 : Int32) (h : AH) (Q : Option Value → AH → Prop) (ht : hT h y1 = 12), WP 125 2 [.ref x0, .int x1] ([.int y0, .ref y1]) h Q ↔ WPM 139 [.ref y1, .int y0] h (fun r h' => WP 125 5 [.ref x0, .int x1] (r.toList ++ []) h' Q)) ∧
  (∀ (x0 : Nat) (x1 : Int32) (y0 : Int32) (st : List Value) (h : AH) (Q : Option Value → AH → Prop), WP 125 5 [.ref x0, .int x1] (.int y0 :: st) h Q ↔ ((y0 = 0 → WP 125 23 [.ref x0, .int x1] (st) h Q) ∧ (¬ y0 = 0 → WP 125 8 [.ref x0, .int x1] (st) h Q))) ∧
  (∀ (x0 : Nat) (x1 : Int32) (st : List Value) (h : AH) (Q : Option Value → AH → Prop), WP 125 8 [.ref x0, .int x1] (st) h Q ↔ WP 125 9 [.ref x0, .int x1] (.ref x0 :: st) h Q) ∧
  (∀ (x0 : Nat) (x1 : Int32) (y0 : Nat) (st : List Value) (h : AH) (Q : Option Value → AH → Prop) (ht : hT h y0 = 12), WP 125 9 [.ref x0, .int x1] (.ref y0 :: st) h Q ↔ WP 125 12 [.ref x0, .int x1] (.ref (hR h y0 10) :: st) h Q) ∧
  (∀ (x0 : Nat) (x1 : Int32) (st : List Value) (h : AH) (Q : Option Value → AH → Prop), WP 125 12 [.ref x0, .int x1] (st) h Q ↔ WP 125 13 [.ref x0, .int x1] (.ref x0 :: st) h Q) ∧
  (∀ (x0 : Nat) (x1 : Int32) (y0 : Nat) (st : List Value) (h : AH) (Q : Option Value → AH → Prop) (ht : hT h y0 = 12), WP 125 13 [.ref x0, .int x1] (.ref y0 :: st) h Q ↔ WP 125 16 [.ref x0, .int x1] (.ref (hR h y0 2) :: st) h Q) ∧
  (∀ (x0 : Nat) (x1 : Int32) (st : List Value) (h : AH) (Q : Option Value → AH → Prop), WP 125 16 [.ref x0, .int x1] (st) h Q ↔ WP 125 17 [.ref x0, .int x1] (.int x1 :: st) h Q) ∧
  (∀ (x0 : Nat) (x1 : Int32) (y2 : Nat) (y1 : Nat) (y0 : Int32) (h : AH) (Q : Option Value → AH → Prop) (ht : hT h y2 = 10), WP 125 17 [.ref x0, .int x1] ([.int y0, .ref y1, .ref y2]) h Q ↔ WPM 84 [.ref y2, .ref y1, .int y0] h (fun r h' => WP 125 20 [.ref x0, .int x1] (r.toList ++ []) h' Q)) ∧
  (∀ (x0 : Nat) (x1 : Int32) (st : List Value) (h : AH) (Q : Option Value → AH → Prop), WP 125 20 [.ref x0, .int x1] (st) h Q ↔ WP 125 25 [.ref x0, .int x1] (st) h Q) ∧
  (∀ (x0 : Nat) (x1 : Int32) (st : List Value) (h : AH) (Q : Option Value → AH → Prop), WP 125 23 [.ref x0, .int x1] (st) h Q ↔ WP 125 25 [.ref x0, .int x1] (.int (-2) :: st) h Q) ∧
  (∀ (x0 : Nat) (x1 : Int32) (y0 : Int32) (h : AH) (Q : Option Value → AH → Prop), WP 125 25 [.ref x0, .int x1] ([.int y0]) h Q ↔ Q (some (.int y0)) h) :=
  ⟨fun _ _ _ _ _ => WP_s (show ct 125 0 = some (.aload_n 0, 0, []) by decide +kernel) rfl,
  fun _ _ _ _ _ => WP_s (show ct 125 1 = some (.iload_n 1, 0, []) by decide +kernel) rfl,
  fun _ _ _ _ _ _ ht => WC_1 (show ct 125 2 = some (.invokevirtual 211, 3, [139, 2, 1, 12, 0, 1038, 1040, 43]) by decide +kernel) (Nat.le_of_ble_eq_true rfl) (Nat.le_of_ble_eq_true rfl) rfl rfl ht,
  fun _ _ _ _ _ _ => WZ_eq (show ct 125 5 = some (.ifCond .eq 18, 0, [23]) by decide +kernel) (by decide),
  fun _ _ _ _ _ => WP_s (show ct 125 8 = some (.aload_n 0, 0, []) by decide +kernel) rfl,
  fun _ _ _ _ _ _ ht => WH_gR (show ct 125 9 = some (.getfield 78, 1, [11, 10, 2, 584]) by decide +kernel) ht,
  fun _ _ _ _ _ => WP_s (show ct 125 12 = some (.aload_n 0, 0, []) by decide +kernel) rfl,
  fun _ _ _ _ _ _ ht => WH_gR (show ct 125 13 = some (.getfield 16, 1, [11, 2, 2, 576]) by decide +kernel) ht,
  fun _ _ _ _ _ => WP_s (show ct 125 16 = some (.iload_n 1, 0, []) by decide +kernel) rfl,
  fun _ _ _ _ _ _ _ ht => WC_1 (show ct 125 17 = some (.invokevirtual 214, 3, [84, 3, 1, 10, 0, 1042, 1043, 1044]) by decide +kernel) (Nat.le_of_ble_eq_true rfl) (Nat.le_of_ble_eq_true rfl) rfl rfl ht,
  fun _ _ _ _ _ => WP_s (show ct 125 20 = some (.goto 5, 0, [25]) by decide +kernel) rfl,
  fun _ _ _ _ _ => WP_s (show ct 125 23 = some (.bipush (-2), 0, []) by decide +kernel) rfl,
  fun _ _ _ _ _ => WR_i (show ct 125 25 = some (.ireturn, 2, [0]) by decide +kernel)⟩
/-! 126: FewBowls.cooks(II)I; loop heads [] -/
set_option maxRecDepth 10000 in
theorem w126 : (∀ (x0 : Nat) (x1 : Int32) (x2 : Int32) (st : List Value) (h : AH) (Q : Option Value → AH → Prop), WP 126 0 [.ref x0, .int x1, .int x2] (st) h Q ↔ WP 126 1 [.ref x0, .int x1, .int x2] (.ref x0 :: st) h Q) ∧
  (∀ (x0 : Nat) (x1 : Int32) (x2 : Int32) (st : List Value) (h : AH) (Q : Option Value → AH → Prop), WP 126 1 [.ref x0, .int x1, .int x2] (st) h Q ↔ WP 126 2 [.ref x0, .int x1, .int x2] (.int x2 :: st) h Q) ∧
  (∀ (x0 : Nat) (x1 : Int32) (x2 : Int32) (y1 : Nat) (y0 : Int32) (h : AH) (Q : Option Value → AH → Prop) (ht : hT h y1 = 12), WP 126 2 [.ref x0, .int x1, .int x2] ([.int y0, .ref y1]) h Q ↔ WPM 139 [.ref y1, .int y0] h (fun r h' => WP 126 5 [.ref x0, .int x1, .int x2] (r.toList ++ []) h' Q)) ∧
  (∀ (x0 : Nat) (x1 : Int32) (x2 : Int32) (y0 : Int32) (st : List Value) (h : AH) (Q : Option Value → AH → Prop), WP 126 5 [.ref x0, .int x1, .int x2] (.int y0 :: st) h Q ↔ ((y0 = 0 → WP 126 18 [.ref x0, .int x1, .int x2] (st) h Q) ∧ (¬ y0 = 0 → WP 126 8 [.ref x0, .int x1, .int x2] (st) h Q))) ∧
  (∀ (x0 : Nat) (x1 : Int32) (x2 : Int32) (st : List Value) (h : AH) (Q : Option Value → AH → Prop), WP 126 8 [.ref x0, .int x1, .int x2] (st) h Q ↔ WP 126 9 [.ref x0, .int x1, .int x2] (.int x1 :: st) h Q) ∧
  (∀ (x0 : Nat) (x1 : Int32) (x2 : Int32) (st : List Value) (h : AH) (Q : Option Value → AH → Prop), WP 126 9 [.ref x0, .int x1, .int x2] (st) h Q ↔ WP 126 10 [.ref x0, .int x1, .int x2] (.int (1) :: st) h Q) ∧
  (∀ (x0 : Nat) (x1 : Int32) (x2 : Int32) (y0 : Int32) (y1 : Int32) (st : List Value) (h : AH) (Q : Option Value → AH → Prop), WP 126 10 [.ref x0, .int x1, .int x2] (.int y0 :: .int y1 :: st) h Q ↔ ((y1 < y0 → WP 126 18 [.ref x0, .int x1, .int x2] (st) h Q) ∧ (¬ y1 < y0 → WP 126 13 [.ref x0, .int x1, .int x2] (st) h Q))) ∧
  (∀ (x0 : Nat) (x1 : Int32) (x2 : Int32) (st : List Value) (h : AH) (Q : Option Value → AH → Prop), WP 126 13 [.ref x0, .int x1, .int x2] (st) h Q ↔ WP 126 14 [.ref x0, .int x1, .int x2] (.int x1 :: st) h Q) ∧
  (∀ (x0 : Nat) (x1 : Int32) (x2 : Int32) (st : List Value) (h : AH) (Q : Option Value → AH → Prop), WP 126 14 [.ref x0, .int x1, .int x2] (st) h Q ↔ WP 126 15 [.ref x0, .int x1, .int x2] (.int (4) :: st) h Q) ∧
  (∀ (x0 : Nat) (x1 : Int32) (x2 : Int32) (y0 : Int32) (y1 : Int32) (st : List Value) (h : AH) (Q : Option Value → AH → Prop), WP 126 15 [.ref x0, .int x1, .int x2] (.int y0 :: .int y1 :: st) h Q ↔ ((y1 ≤ y0 → WP 126 21 [.ref x0, .int x1, .int x2] (st) h Q) ∧ (¬ y1 ≤ y0 → WP 126 18 [.ref x0, .int x1, .int x2] (st) h Q))) ∧
  (∀ (x0 : Nat) (x1 : Int32) (x2 : Int32) (st : List Value) (h : AH) (Q : Option Value → AH → Prop), WP 126 18 [.ref x0, .int x1, .int x2] (st) h Q ↔ WP 126 20 [.ref x0, .int x1, .int x2] (.int (-2) :: st) h Q) ∧
  (∀ (x0 : Nat) (x1 : Int32) (x2 : Int32) (y0 : Int32) (h : AH) (Q : Option Value → AH → Prop), WP 126 20 [.ref x0, .int x1, .int x2] ([.int y0]) h Q ↔ Q (some (.int y0)) h) ∧
  (∀ (x0 : Nat) (x1 : Int32) (x2 : Int32) (st : List Value) (h : AH) (Q : Option Value → AH → Prop), WP 126 21 [.ref x0, .int x1, .int x2] (st) h Q ↔ WP 126 22 [.ref x0, .int x1, .int x2] (.ref x0 :: st) h Q) ∧
  (∀ (x0 : Nat) (x1 : Int32) (x2 : Int32) (y0 : Nat) (st : List Value) (h : AH) (Q : Option Value → AH → Prop) (ht : hT h y0 = 12), WP 126 22 [.ref x0, .int x1, .int x2] (.ref y0 :: st) h Q ↔ WP 126 25 [.ref x0, .int x1, .int x2] (.ref (hR h y0 10) :: st) h Q) ∧
  (∀ (x0 : Nat) (x1 : Int32) (x2 : Int32) (st : List Value) (h : AH) (Q : Option Value → AH → Prop), WP 126 25 [.ref x0, .int x1, .int x2] (st) h Q ↔ WP 126 26 [.ref x0, .int x1, .int x2] (.ref x0 :: st) h Q) ∧
  (∀ (x0 : Nat) (x1 : Int32) (x2 : Int32) (y0 : Nat) (st : List Value) (h : AH) (Q : Option Value → AH → Prop) (ht : hT h y0 = 12), WP 126 26 [.ref x0, .int x1, .int x2] (.ref y0 :: st) h Q ↔ WP 126 29 [.ref x0, .int x1, .int x2] (.ref (hR h y0 2) :: st) h Q) ∧
  (∀ (x0 : Nat) (x1 : Int32) (x2 : Int32) (st : List Value) (h : AH) (Q : Option Value → AH → Prop), WP 126 29 [.ref x0, .int x1, .int x2] (st) h Q ↔ WP 126 30 [.ref x0, .int x1, .int x2] (.int x1 :: st) h Q) ∧
  (∀ (x0 : Nat) (x1 : Int32) (x2 : Int32) (st : List Value) (h : AH) (Q : Option Value → AH → Prop), WP 126 30 [.ref x0, .int x1, .int x2] (st) h Q ↔ WP 126 31 [.ref x0, .int x1, .int x2] (.int x2 :: st) h Q) ∧
  (∀ (x0 : Nat) (x1 : Int32) (x2 : Int32) (y3 : Nat) (y2 : Nat) (y1 : Int32) (y0 : Int32) (h : AH) (Q : Option Value → AH → Prop) (ht : hT h y3 = 10), WP 126 31 [.ref x0, .int x1, .int x2] ([.int y0, .int y1, .ref y2, .ref y3]) h Q ↔ WPM 87 [.ref y3, .ref y2, .int y1, .int y0] h (fun r h' => WP 126 34 [.ref x0, .int x1, .int x2] (r.toList ++ []) h' Q)) ∧
  (∀ (x0 : Nat) (x1 : Int32) (x2 : Int32) (y0 : Int32) (h : AH) (Q : Option Value → AH → Prop), WP 126 34 [.ref x0, .int x1, .int x2] ([.int y0]) h Q ↔ Q (some (.int y0)) h) :=
  ⟨fun _ _ _ _ _ _ => WP_s (show ct 126 0 = some (.aload_n 0, 0, []) by decide +kernel) rfl,
  fun _ _ _ _ _ _ => WP_s (show ct 126 1 = some (.iload_n 2, 0, []) by decide +kernel) rfl,
  fun _ _ _ _ _ _ _ ht => WC_1 (show ct 126 2 = some (.invokevirtual 211, 3, [139, 2, 1, 12, 0, 1038, 1040, 43]) by decide +kernel) (Nat.le_of_ble_eq_true rfl) (Nat.le_of_ble_eq_true rfl) rfl rfl ht,
  fun _ _ _ _ _ _ _ => WZ_eq (show ct 126 5 = some (.ifCond .eq 13, 0, [18]) by decide +kernel) (by decide),
  fun _ _ _ _ _ _ => WP_s (show ct 126 8 = some (.iload_n 1, 0, []) by decide +kernel) rfl,
  fun _ _ _ _ _ _ => WP_s (show ct 126 9 = some (.iconst 1, 0, []) by decide +kernel) rfl,
  fun _ _ _ _ _ _ _ _ => WI_lt (show ct 126 10 = some (.if_icmp .lt 8, 0, [18]) by decide +kernel) (by decide),
  fun _ _ _ _ _ _ => WP_s (show ct 126 13 = some (.iload_n 1, 0, []) by decide +kernel) rfl,
  fun _ _ _ _ _ _ => WP_s (show ct 126 14 = some (.iconst 4, 0, []) by decide +kernel) rfl,
  fun _ _ _ _ _ _ _ _ => WI_le (show ct 126 15 = some (.if_icmp .le 6, 0, [21]) by decide +kernel) (by decide),
  fun _ _ _ _ _ _ => WP_s (show ct 126 18 = some (.bipush (-2), 0, []) by decide +kernel) rfl,
  fun _ _ _ _ _ _ => WR_i (show ct 126 20 = some (.ireturn, 2, [0]) by decide +kernel),
  fun _ _ _ _ _ _ => WP_s (show ct 126 21 = some (.aload_n 0, 0, []) by decide +kernel) rfl,
  fun _ _ _ _ _ _ _ ht => WH_gR (show ct 126 22 = some (.getfield 78, 1, [11, 10, 2, 584]) by decide +kernel) ht,
  fun _ _ _ _ _ _ => WP_s (show ct 126 25 = some (.aload_n 0, 0, []) by decide +kernel) rfl,
  fun _ _ _ _ _ _ _ ht => WH_gR (show ct 126 26 = some (.getfield 16, 1, [11, 2, 2, 576]) by decide +kernel) ht,
  fun _ _ _ _ _ _ => WP_s (show ct 126 29 = some (.iload_n 1, 0, []) by decide +kernel) rfl,
  fun _ _ _ _ _ _ => WP_s (show ct 126 30 = some (.iload_n 2, 0, []) by decide +kernel) rfl,
  fun _ _ _ _ _ _ _ _ _ ht => WC_1 (show ct 126 31 = some (.invokevirtual 217, 3, [87, 4, 1, 10, 0, 1071, 1072, 1073]) by decide +kernel) (Nat.le_of_ble_eq_true rfl) (Nat.le_of_ble_eq_true rfl) rfl rfl ht,
  fun _ _ _ _ _ _ => WR_i (show ct 126 34 = some (.ireturn, 2, [0]) by decide +kernel)⟩
/-! 127: FewBowls.promised()I; loop heads [] -/
set_option maxRecDepth 10000 in
theorem w127 : (∀ (x0 : Nat) (st : List Value) (h : AH) (Q : Option Value → AH → Prop), WP 127 0 [.ref x0] (st) h Q ↔ WP 127 1 [.ref x0] (.ref x0 :: st) h Q) ∧
  (∀ (x0 : Nat) (st : List Value) (h : AH) (Q : Option Value → AH → Prop), WP 127 1 [.ref x0] (st) h Q ↔ WP 127 2 [.ref x0] (.int (1) :: st) h Q) ∧
  (∀ (x0 : Nat) (y1 : Nat) (y0 : Int32) (h : AH) (Q : Option Value → AH → Prop) (ht : hT h y1 = 12), WP 127 2 [.ref x0] ([.int y0, .ref y1]) h Q ↔ WPM 139 [.ref y1, .int y0] h (fun r h' => WP 127 5 [.ref x0] (r.toList ++ []) h' Q)) ∧
  (∀ (x0 : Nat) (y0 : Int32) (st : List Value) (h : AH) (Q : Option Value → AH → Prop), WP 127 5 [.ref x0] (.int y0 :: st) h Q ↔ ((y0 = 0 → WP 127 22 [.ref x0] (st) h Q) ∧ (¬ y0 = 0 → WP 127 8 [.ref x0] (st) h Q))) ∧
  (∀ (x0 : Nat) (st : List Value) (h : AH) (Q : Option Value → AH → Prop), WP 127 8 [.ref x0] (st) h Q ↔ WP 127 9 [.ref x0] (.ref x0 :: st) h Q) ∧
  (∀ (x0 : Nat) (y0 : Nat) (st : List Value) (h : AH) (Q : Option Value → AH → Prop) (ht : hT h y0 = 12), WP 127 9 [.ref x0] (.ref y0 :: st) h Q ↔ WP 127 12 [.ref x0] (.ref (hR h y0 10) :: st) h Q) ∧
  (∀ (x0 : Nat) (st : List Value) (h : AH) (Q : Option Value → AH → Prop), WP 127 12 [.ref x0] (st) h Q ↔ WP 127 13 [.ref x0] (.ref x0 :: st) h Q) ∧
  (∀ (x0 : Nat) (y0 : Nat) (st : List Value) (h : AH) (Q : Option Value → AH → Prop) (ht : hT h y0 = 12), WP 127 13 [.ref x0] (.ref y0 :: st) h Q ↔ WP 127 16 [.ref x0] (.ref (hR h y0 2) :: st) h Q) ∧
  (∀ (x0 : Nat) (y1 : Nat) (y0 : Nat) (h : AH) (Q : Option Value → AH → Prop) (ht : hT h y1 = 10), WP 127 16 [.ref x0] ([.ref y0, .ref y1]) h Q ↔ WPM 90 [.ref y1, .ref y0] h (fun r h' => WP 127 19 [.ref x0] (r.toList ++ []) h' Q)) ∧
  (∀ (x0 : Nat) (st : List Value) (h : AH) (Q : Option Value → AH → Prop), WP 127 19 [.ref x0] (st) h Q ↔ WP 127 23 [.ref x0] (st) h Q) ∧
  (∀ (x0 : Nat) (st : List Value) (h : AH) (Q : Option Value → AH → Prop), WP 127 22 [.ref x0] (st) h Q ↔ WP 127 23 [.ref x0] (.int (-1) :: st) h Q) ∧
  (∀ (x0 : Nat) (y0 : Int32) (h : AH) (Q : Option Value → AH → Prop), WP 127 23 [.ref x0] ([.int y0]) h Q ↔ Q (some (.int y0)) h) :=
  ⟨fun _ _ _ _ => WP_s (show ct 127 0 = some (.aload_n 0, 0, []) by decide +kernel) rfl,
  fun _ _ _ _ => WP_s (show ct 127 1 = some (.iconst 1, 0, []) by decide +kernel) rfl,
  fun _ _ _ _ _ ht => WC_1 (show ct 127 2 = some (.invokevirtual 211, 3, [139, 2, 1, 12, 0, 1038, 1040, 43]) by decide +kernel) (Nat.le_of_ble_eq_true rfl) (Nat.le_of_ble_eq_true rfl) rfl rfl ht,
  fun _ _ _ _ _ => WZ_eq (show ct 127 5 = some (.ifCond .eq 17, 0, [22]) by decide +kernel) (by decide),
  fun _ _ _ _ => WP_s (show ct 127 8 = some (.aload_n 0, 0, []) by decide +kernel) rfl,
  fun _ _ _ _ _ ht => WH_gR (show ct 127 9 = some (.getfield 78, 1, [11, 10, 2, 584]) by decide +kernel) ht,
  fun _ _ _ _ => WP_s (show ct 127 12 = some (.aload_n 0, 0, []) by decide +kernel) rfl,
  fun _ _ _ _ _ ht => WH_gR (show ct 127 13 = some (.getfield 16, 1, [11, 2, 2, 576]) by decide +kernel) ht,
  fun _ _ _ _ _ ht => WC_1 (show ct 127 16 = some (.invokevirtual 220, 3, [90, 2, 1, 10, 0, 1088, 1089, 1090]) by decide +kernel) (Nat.le_of_ble_eq_true rfl) (Nat.le_of_ble_eq_true rfl) rfl rfl ht,
  fun _ _ _ _ => WP_s (show ct 127 19 = some (.goto 4, 0, [23]) by decide +kernel) rfl,
  fun _ _ _ _ => WP_s (show ct 127 22 = some (.iconst (-1), 0, []) by decide +kernel) rfl,
  fun _ _ _ _ => WR_i (show ct 127 23 = some (.ireturn, 2, [0]) by decide +kernel)⟩
/-! 128: FewBowls.ready(I)I; loop heads [] -/
set_option maxRecDepth 10000 in
theorem w128 : (∀ (x0 : Nat) (x1 : Int32) (st : List Value) (h : AH) (Q : Option Value → AH → Prop), WP 128 0 [.ref x0, .int x1] (st) h Q ↔ WP 128 1 [.ref x0, .int x1] (.ref x0 :: st) h Q) ∧
  (∀ (x0 : Nat) (x1 : Int32) (st : List Value) (h : AH) (Q : Option Value → AH → Prop), WP 128 1 [.ref x0, .int x1] (st) h Q ↔ WP 128 2 [.ref x0, .int x1] (.int x1 :: st) h Q) ∧
  (∀ (x0 : Nat) (x1 : Int32) (y1 : Nat) (y0 : Int32) (h : AH) (Q : Option Value → AH → Prop) (ht : hT h y1 = 12), WP 128 2 [.ref x0, .int x1] ([.int y0, .ref y1]) h Q ↔ WPM 136 [.ref y1, .int y0] h (fun r h' => WP 128 5 [.ref x0, .int x1] (r.toList ++ []) h' Q)) ∧
  (∀ (x0 : Nat) (x1 : Int32) (y0 : Int32) (st : List Value) (h : AH) (Q : Option Value → AH → Prop), WP 128 5 [.ref x0, .int x1] (.int y0 :: st) h Q ↔ ((y0 = 0 → WP 128 23 [.ref x0, .int x1] (st) h Q) ∧ (¬ y0 = 0 → WP 128 8 [.ref x0, .int x1] (st) h Q))) ∧
  (∀ (x0 : Nat) (x1 : Int32) (st : List Value) (h : AH) (Q : Option Value → AH → Prop), WP 128 8 [.ref x0, .int x1] (st) h Q ↔ WP 128 9 [.ref x0, .int x1] (.ref x0 :: st) h Q) ∧
  (∀ (x0 : Nat) (x1 : Int32) (y0 : Nat) (st : List Value) (h : AH) (Q : Option Value → AH → Prop) (ht : hT h y0 = 12), WP 128 9 [.ref x0, .int x1] (.ref y0 :: st) h Q ↔ WP 128 12 [.ref x0, .int x1] (.ref (hR h y0 6) :: st) h Q) ∧
  (∀ (x0 : Nat) (x1 : Int32) (st : List Value) (h : AH) (Q : Option Value → AH → Prop), WP 128 12 [.ref x0, .int x1] (st) h Q ↔ WP 128 13 [.ref x0, .int x1] (.ref x0 :: st) h Q) ∧
  (∀ (x0 : Nat) (x1 : Int32) (y0 : Nat) (st : List Value) (h : AH) (Q : Option Value → AH → Prop) (ht : hT h y0 = 12), WP 128 13 [.ref x0, .int x1] (.ref y0 :: st) h Q ↔ WP 128 16 [.ref x0, .int x1] (.ref (hR h y0 2) :: st) h Q) ∧
  (∀ (x0 : Nat) (x1 : Int32) (st : List Value) (h : AH) (Q : Option Value → AH → Prop), WP 128 16 [.ref x0, .int x1] (st) h Q ↔ WP 128 17 [.ref x0, .int x1] (.int x1 :: st) h Q) ∧
  (∀ (x0 : Nat) (x1 : Int32) (y2 : Nat) (y1 : Nat) (y0 : Int32) (h : AH) (Q : Option Value → AH → Prop) (ht : hT h y2 = 7), WP 128 17 [.ref x0, .int x1] ([.int y0, .ref y1, .ref y2]) h Q ↔ WPM 55 [.ref y2, .ref y1, .int y0] h (fun r h' => WP 128 20 [.ref x0, .int x1] (r.toList ++ []) h' Q)) ∧
  (∀ (x0 : Nat) (x1 : Int32) (st : List Value) (h : AH) (Q : Option Value → AH → Prop), WP 128 20 [.ref x0, .int x1] (st) h Q ↔ WP 128 24 [.ref x0, .int x1] (st) h Q) ∧
  (∀ (x0 : Nat) (x1 : Int32) (st : List Value) (h : AH) (Q : Option Value → AH → Prop), WP 128 23 [.ref x0, .int x1] (st) h Q ↔ WP 128 24 [.ref x0, .int x1] (.int (-1) :: st) h Q) ∧
  (∀ (x0 : Nat) (x1 : Int32) (y0 : Int32) (h : AH) (Q : Option Value → AH → Prop), WP 128 24 [.ref x0, .int x1] ([.int y0]) h Q ↔ Q (some (.int y0)) h) :=
  ⟨fun _ _ _ _ _ => WP_s (show ct 128 0 = some (.aload_n 0, 0, []) by decide +kernel) rfl,
  fun _ _ _ _ _ => WP_s (show ct 128 1 = some (.iload_n 1, 0, []) by decide +kernel) rfl,
  fun _ _ _ _ _ _ ht => WC_1 (show ct 128 2 = some (.invokevirtual 160, 3, [136, 2, 1, 12, 0, 765, 767, 17]) by decide +kernel) (Nat.le_of_ble_eq_true rfl) (Nat.le_of_ble_eq_true rfl) rfl rfl ht,
  fun _ _ _ _ _ _ => WZ_eq (show ct 128 5 = some (.ifCond .eq 18, 0, [23]) by decide +kernel) (by decide),
  fun _ _ _ _ _ => WP_s (show ct 128 8 = some (.aload_n 0, 0, []) by decide +kernel) rfl,
  fun _ _ _ _ _ _ ht => WH_gR (show ct 128 9 = some (.getfield 48, 1, [11, 6, 2, 580]) by decide +kernel) ht,
  fun _ _ _ _ _ => WP_s (show ct 128 12 = some (.aload_n 0, 0, []) by decide +kernel) rfl,
  fun _ _ _ _ _ _ ht => WH_gR (show ct 128 13 = some (.getfield 16, 1, [11, 2, 2, 576]) by decide +kernel) ht,
  fun _ _ _ _ _ => WP_s (show ct 128 16 = some (.iload_n 1, 0, []) by decide +kernel) rfl,
  fun _ _ _ _ _ _ _ ht => WC_1 (show ct 128 17 = some (.invokevirtual 224, 3, [55, 3, 1, 7, 0, 1100, 1101, 1102]) by decide +kernel) (Nat.le_of_ble_eq_true rfl) (Nat.le_of_ble_eq_true rfl) rfl rfl ht,
  fun _ _ _ _ _ => WP_s (show ct 128 20 = some (.goto 4, 0, [24]) by decide +kernel) rfl,
  fun _ _ _ _ _ => WP_s (show ct 128 23 = some (.iconst (-1), 0, []) by decide +kernel) rfl,
  fun _ _ _ _ _ => WR_i (show ct 128 24 = some (.ireturn, 2, [0]) by decide +kernel)⟩
/-! 129: FewBowls.plan()I; loop heads [] -/
set_option maxRecDepth 10000 in
theorem w129 : (∀ (x0 : Nat) (st : List Value) (h : AH) (Q : Option Value → AH → Prop), WP 129 0 [.ref x0, .retAddr 0] (st) h Q ↔ WP 129 1 [.ref x0, .retAddr 0] (.ref x0 :: st) h Q) ∧
  (∀ (x0 : Nat) (y0 : Nat) (st : List Value) (h : AH) (Q : Option Value → AH → Prop) (ht : hT h y0 = 12), WP 129 1 [.ref x0, .retAddr 0] (.ref y0 :: st) h Q ↔ WP 129 4 [.ref x0, .retAddr 0] (.ref (hR h y0 4) :: st) h Q) ∧
  (∀ (x0 : Nat) (st : List Value) (h : AH) (Q : Option Value → AH → Prop), WP 129 4 [.ref x0, .retAddr 0] (st) h Q ↔ WP 129 5 [.ref x0, .retAddr 0] (.ref x0 :: st) h Q) ∧
  (∀ (x0 : Nat) (y0 : Nat) (st : List Value) (h : AH) (Q : Option Value → AH → Prop) (ht : hT h y0 = 12), WP 129 5 [.ref x0, .retAddr 0] (.ref y0 :: st) h Q ↔ WP 129 8 [.ref x0, .retAddr 0] (.ref (hR h y0 0) :: st) h Q) ∧
  (∀ (x0 : Nat) (st : List Value) (h : AH) (Q : Option Value → AH → Prop), WP 129 8 [.ref x0, .retAddr 0] (st) h Q ↔ WP 129 9 [.ref x0, .retAddr 0] (.ref x0 :: st) h Q) ∧
  (∀ (x0 : Nat) (y2 : Nat) (y1 : Nat) (y0 : Nat) (h : AH) (Q : Option Value → AH → Prop) (ht : hT h y0 = 12), WP 129 9 [.ref x0, .retAddr 0] ([.ref y0, .ref y1, .ref y2]) h Q ↔ WPM 109 [.ref y0] h (fun r h' => WP 129 12 [.ref x0, .retAddr 0] (r.toList ++ [.ref y1, .ref y2]) h' Q)) ∧
  (∀ (x0 : Nat) (st : List Value) (h : AH) (Q : Option Value → AH → Prop), WP 129 12 [.ref x0, .retAddr 0] (st) h Q ↔ WP 129 13 [.ref x0, .retAddr 0] (.ref x0 :: st) h Q) ∧
  (∀ (x0 : Nat) (y0 : Nat) (st : List Value) (h : AH) (Q : Option Value → AH → Prop) (ht : hT h y0 = 12), WP 129 13 [.ref x0, .retAddr 0] (.ref y0 :: st) h Q ↔ WP 129 16 [.ref x0, .retAddr 0] (.ref (hR h y0 2) :: st) h Q) ∧
  (∀ (x0 : Nat) (y3 : Nat) (y2 : Nat) (y1 : Int32) (y0 : Nat) (h : AH) (Q : Option Value → AH → Prop) (ht : hT h y3 = 8), WP 129 16 [.ref x0, .retAddr 0] ([.ref y0, .int y1, .ref y2, .ref y3]) h Q ↔ WPM 71 [.ref y3, .ref y2, .int y1, .ref y0] h (fun r h' => WP 129 19 [.ref x0, .retAddr 0] (r.toList ++ []) h' Q)) ∧
  (∀ (x0 : Nat) (y0 : Int32) (st : List Value) (h : AH) (Q : Option Value → AH → Prop), WP 129 19 [.ref x0, .retAddr 0] (.int y0 :: st) h Q ↔ WP 129 20 [.ref x0, .int y0] (st) h Q) ∧
  (∀ (x0 : Nat) (x1 : Int32) (st : List Value) (h : AH) (Q : Option Value → AH → Prop), WP 129 20 [.ref x0, .int x1] (st) h Q ↔ WP 129 21 [.ref x0, .int x1] (.int x1 :: st) h Q) ∧
  (∀ (x0 : Nat) (x1 : Int32) (y0 : Int32) (st : List Value) (h : AH) (Q : Option Value → AH → Prop), WP 129 21 [.ref x0, .int x1] (.int y0 :: st) h Q ↔ ((¬ y0 = 0 → WP 129 34 [.ref x0, .int x1] (st) h Q) ∧ (y0 = 0 → WP 129 24 [.ref x0, .int x1] (st) h Q))) ∧
  (∀ (x0 : Nat) (x1 : Int32) (st : List Value) (h : AH) (Q : Option Value → AH → Prop), WP 129 24 [.ref x0, .int x1] (st) h Q ↔ WP 129 25 [.ref x0, .int x1] (.int (-1) :: st) h Q) ∧
  (∀ (x0 : Nat) (x1 : Int32) (st : List Value) (h : AH) (Q : Option Value → AH → Prop), WP 129 25 [.ref x0, .int x1] (st) h Q ↔ WP 129 26 [.ref x0, .int x1] (.ref x0 :: st) h Q) ∧
  (∀ (x0 : Nat) (x1 : Int32) (y0 : Nat) (st : List Value) (h : AH) (Q : Option Value → AH → Prop) (ht : hT h y0 = 12), WP 129 26 [.ref x0, .int x1] (.ref y0 :: st) h Q ↔ WP 129 29 [.ref x0, .int x1] (.ref (hR h y0 4) :: st) h Q) ∧
  (∀ (x0 : Nat) (x1 : Int32) (y0 : Nat) (st : List Value) (h : AH) (Q : Option Value → AH → Prop) (ht : hT h y0 = 8), WP 129 29 [.ref x0, .int x1] (.ref y0 :: st) h Q ↔ WP 129 32 [.ref x0, .int x1] (.int (hI h y0 4) :: st) h Q) ∧
  (∀ (x0 : Nat) (x1 : Int32) (y0 : Int32) (y1 : Int32) (st : List Value) (h : AH) (Q : Option Value → AH → Prop), WP 129 32 [.ref x0, .int x1] (.int y0 :: .int y1 :: st) h Q ↔ WP 129 33 [.ref x0, .int x1] (.int (y1 - y0) :: st) h Q) ∧
  (∀ (x0 : Nat) (x1 : Int32) (y0 : Int32) (h : AH) (Q : Option Value → AH → Prop), WP 129 33 [.ref x0, .int x1] ([.int y0]) h Q ↔ Q (some (.int y0)) h) ∧
  (∀ (x0 : Nat) (x1 : Int32) (st : List Value) (h : AH) (Q : Option Value → AH → Prop), WP 129 34 [.ref x0, .int x1] (st) h Q ↔ WP 129 35 [.ref x0, .int x1] (.ref x0 :: st) h Q) ∧
  (∀ (x0 : Nat) (x1 : Int32) (y0 : Nat) (st : List Value) (h : AH) (Q : Option Value → AH → Prop) (ht : hT h y0 = 12), WP 129 35 [.ref x0, .int x1] (.ref y0 :: st) h Q ↔ WP 129 38 [.ref x0, .int x1] (.ref (hR h y0 5) :: st) h Q) ∧
  (∀ (x0 : Nat) (x1 : Int32) (st : List Value) (h : AH) (Q : Option Value → AH → Prop), WP 129 38 [.ref x0, .int x1] (st) h Q ↔ WP 129 39 [.ref x0, .int x1] (.ref x0 :: st) h Q) ∧
  (∀ (x0 : Nat) (x1 : Int32) (y0 : Nat) (st : List Value) (h : AH) (Q : Option Value → AH → Prop) (ht : hT h y0 = 12), WP 129 39 [.ref x0, .int x1] (.ref y0 :: st) h Q ↔ WP 129 42 [.ref x0, .int x1] (.ref (hR h y0 4) :: st) h Q) ∧
  (∀ (x0 : Nat) (x1 : Int32) (y0 : Nat) (st : List Value) (h : AH) (Q : Option Value → AH → Prop) (ht : hT h y0 = 8), WP 129 42 [.ref x0, .int x1] (.ref y0 :: st) h Q ↔ WP 129 45 [.ref x0, .int x1] (.ref (hR h y0 1) :: st) h Q) ∧
  (∀ (x0 : Nat) (x1 : Int32) (st : List Value) (h : AH) (Q : Option Value → AH → Prop), WP 129 45 [.ref x0, .int x1] (st) h Q ↔ WP 129 46 [.ref x0, .int x1] (.ref x0 :: st) h Q) ∧
  (∀ (x0 : Nat) (x1 : Int32) (y0 : Nat) (st : List Value) (h : AH) (Q : Option Value → AH → Prop) (ht : hT h y0 = 12), WP 129 46 [.ref x0, .int x1] (.ref y0 :: st) h Q ↔ WP 129 49 [.ref x0, .int x1] (.ref (hR h y0 4) :: st) h Q) ∧
  (∀ (x0 : Nat) (x1 : Int32) (y0 : Nat) (st : List Value) (h : AH) (Q : Option Value → AH → Prop) (ht : hT h y0 = 8), WP 129 49 [.ref x0, .int x1] (.ref y0 :: st) h Q ↔ WP 129 52 [.ref x0, .int x1] (.int (hI h y0 2) :: st) h Q) ∧
  (∀ (x0 : Nat) (x1 : Int32) (y2 : Nat) (y1 : Nat) (y0 : Int32) (h : AH) (Q : Option Value → AH → Prop) (ht : hT h y2 = 6), WP 129 52 [.ref x0, .int x1] ([.int y0, .ref y1, .ref y2]) h Q ↔ WPM 45 [.ref y2, .ref y1, .int y0] h (fun r h' => WP 129 55 [.ref x0, .int x1] (r.toList ++ []) h' Q)) ∧
  (∀ (x0 : Nat) (x1 : Int32) (st : List Value) (h : AH) (Q : Option Value → AH → Prop), WP 129 55 [.ref x0, .int x1] (st) h Q ↔ WP 129 56 [.ref x0, .int x1] (.ref x0 :: st) h Q) ∧
  (∀ (x0 : Nat) (x1 : Int32) (y0 : Nat) (st : List Value) (h : AH) (Q : Option Value → AH → Prop) (ht : hT h y0 = 12), WP 129 56 [.ref x0, .int x1] (.ref y0 :: st) h Q ↔ WP 129 59 [.ref x0, .int x1] (.ref (hR h y0 5) :: st) h Q) ∧
  (∀ (x0 : Nat) (x1 : Int32) (y0 : Nat) (st : List Value) (h : AH) (Q : Option Value → AH → Prop) (ht : hT h y0 = 6), WP 129 59 [.ref x0, .int x1] (.ref y0 :: st) h Q ↔ WP 129 62 [.ref x0, .int x1] (.int (hI h y0 3) :: st) h Q) ∧
  (∀ (x0 : Nat) (x1 : Int32) (y0 : Int32) (h : AH) (Q : Option Value → AH → Prop), WP 129 62 [.ref x0, .int x1] ([.int y0]) h Q ↔ Q (some (.int y0)) h) :=
  ⟨fun _ _ _ _ => WP_s (show ct 129 0 = some (.aload_n 0, 0, []) by decide +kernel) rfl,
  fun _ _ _ _ _ ht => WH_gR (show ct 129 1 = some (.getfield 26, 1, [11, 4, 2, 578]) by decide +kernel) ht,
  fun _ _ _ _ => WP_s (show ct 129 4 = some (.aload_n 0, 0, []) by decide +kernel) rfl,
  fun _ _ _ _ _ ht => WH_gR (show ct 129 5 = some (.getfield 9, 1, [11, 0, 2, 574]) by decide +kernel) ht,
  fun _ _ _ _ => WP_s (show ct 129 8 = some (.aload_n 0, 0, []) by decide +kernel) rfl,
  fun _ _ _ _ _ _ ht => WC_1 (show ct 129 9 = some (.invokevirtual 90, 3, [109, 1, 1, 12, 0, 624, 626, 1]) by decide +kernel) (Nat.le_of_ble_eq_true rfl) (Nat.le_of_ble_eq_true rfl) rfl rfl ht,
  fun _ _ _ _ => WP_s (show ct 129 12 = some (.aload_n 0, 0, []) by decide +kernel) rfl,
  fun _ _ _ _ _ ht => WH_gR (show ct 129 13 = some (.getfield 16, 1, [11, 2, 2, 576]) by decide +kernel) ht,
  fun _ _ _ _ _ _ _ ht => WC_1 (show ct 129 16 = some (.invokevirtual 227, 3, [71, 4, 1, 8, 0, 1110, 1111, 1112]) by decide +kernel) (Nat.le_of_ble_eq_true rfl) (Nat.le_of_ble_eq_true rfl) rfl rfl ht,
  fun _ _ _ _ _ => WP_s (show ct 129 19 = some (.istore_n 1, 0, []) by decide +kernel) rfl,
  fun _ _ _ _ _ => WP_s (show ct 129 20 = some (.iload_n 1, 0, []) by decide +kernel) rfl,
  fun _ _ _ _ _ _ => WZ_ne (show ct 129 21 = some (.ifCond .ne 13, 0, [34]) by decide +kernel) (by decide),
  fun _ _ _ _ _ => WP_s (show ct 129 24 = some (.iconst (-1), 0, []) by decide +kernel) rfl,
  fun _ _ _ _ _ => WP_s (show ct 129 25 = some (.aload_n 0, 0, []) by decide +kernel) rfl,
  fun _ _ _ _ _ _ ht => WH_gR (show ct 129 26 = some (.getfield 26, 1, [11, 4, 2, 578]) by decide +kernel) ht,
  fun _ _ _ _ _ _ ht => WH_gI (show ct 129 29 = some (.getfield 98, 1, [7, 4, 0, 313]) by decide +kernel) (by decide) ht,
  fun _ _ _ _ _ _ _ => WP_s (show ct 129 32 = some (.isub, 0, []) by decide +kernel) rfl,
  fun _ _ _ _ _ => WR_i (show ct 129 33 = some (.ireturn, 2, [0]) by decide +kernel),
  fun _ _ _ _ _ => WP_s (show ct 129 34 = some (.aload_n 0, 0, []) by decide +kernel) rfl,
  fun _ _ _ _ _ _ ht => WH_gR (show ct 129 35 = some (.getfield 41, 1, [11, 5, 2, 579]) by decide +kernel) ht,
  fun _ _ _ _ _ => WP_s (show ct 129 38 = some (.aload_n 0, 0, []) by decide +kernel) rfl,
  fun _ _ _ _ _ _ ht => WH_gR (show ct 129 39 = some (.getfield 26, 1, [11, 4, 2, 578]) by decide +kernel) ht,
  fun _ _ _ _ _ _ ht => WH_gR (show ct 129 42 = some (.getfield 230, 1, [7, 1, 2, 307]) by decide +kernel) ht,
  fun _ _ _ _ _ => WP_s (show ct 129 45 = some (.aload_n 0, 0, []) by decide +kernel) rfl,
  fun _ _ _ _ _ _ ht => WH_gR (show ct 129 46 = some (.getfield 26, 1, [11, 4, 2, 578]) by decide +kernel) ht,
  fun _ _ _ _ _ _ ht => WH_gI (show ct 129 49 = some (.getfield 233, 1, [7, 2, 0, 309]) by decide +kernel) (by decide) ht,
  fun _ _ _ _ _ _ _ ht => WC_1 (show ct 129 52 = some (.invokevirtual 236, 3, [45, 3, 1, 6, 0, 1123, 1124, 1125]) by decide +kernel) (Nat.le_of_ble_eq_true rfl) (Nat.le_of_ble_eq_true rfl) rfl rfl ht,
  fun _ _ _ _ _ => WP_s (show ct 129 55 = some (.aload_n 0, 0, []) by decide +kernel) rfl,
  fun _ _ _ _ _ _ ht => WH_gR (show ct 129 56 = some (.getfield 41, 1, [11, 5, 2, 579]) by decide +kernel) ht,
  fun _ _ _ _ _ _ ht => WH_gI (show ct 129 59 = some (.getfield 240, 1, [5, 3, 0, 390]) by decide +kernel) (by decide) ht,
  fun _ _ _ _ _ => WR_i (show ct 129 62 = some (.ireturn, 2, [0]) by decide +kernel)⟩
/-! 130: FewBowls.planAt(I)I; loop heads [] -/
set_option maxRecDepth 10000 in
theorem w130 : (∀ (x0 : Nat) (x1 : Int32) (st : List Value) (h : AH) (Q : Option Value → AH → Prop), WP 130 0 [.ref x0, .int x1] (st) h Q ↔ WP 130 1 [.ref x0, .int x1] (.int x1 :: st) h Q) ∧
  (∀ (x0 : Nat) (x1 : Int32) (y0 : Int32) (st : List Value) (h : AH) (Q : Option Value → AH → Prop), WP 130 1 [.ref x0, .int x1] (.int y0 :: st) h Q ↔ ((y0 < 0 → WP 130 27 [.ref x0, .int x1] (st) h Q) ∧ (¬ y0 < 0 → WP 130 4 [.ref x0, .int x1] (st) h Q))) ∧
  (∀ (x0 : Nat) (x1 : Int32) (st : List Value) (h : AH) (Q : Option Value → AH → Prop), WP 130 4 [.ref x0, .int x1] (st) h Q ↔ WP 130 5 [.ref x0, .int x1] (.int x1 :: st) h Q) ∧
  (∀ (x0 : Nat) (x1 : Int32) (st : List Value) (h : AH) (Q : Option Value → AH → Prop), WP 130 5 [.ref x0, .int x1] (st) h Q ↔ WP 130 6 [.ref x0, .int x1] (.ref x0 :: st) h Q) ∧
  (∀ (x0 : Nat) (x1 : Int32) (y0 : Nat) (st : List Value) (h : AH) (Q : Option Value → AH → Prop) (ht : hT h y0 = 12), WP 130 6 [.ref x0, .int x1] (.ref y0 :: st) h Q ↔ WP 130 9 [.ref x0, .int x1] (.ref (hR h y0 5) :: st) h Q) ∧
  (∀ (x0 : Nat) (x1 : Int32) (y0 : Nat) (st : List Value) (h : AH) (Q : Option Value → AH → Prop) (ht : hT h y0 = 6), WP 130 9 [.ref x0, .int x1] (.ref y0 :: st) h Q ↔ WP 130 12 [.ref x0, .int x1] (.int (hI h y0 3) :: st) h Q) ∧
  (∀ (x0 : Nat) (x1 : Int32) (y0 : Int32) (y1 : Int32) (st : List Value) (h : AH) (Q : Option Value → AH → Prop), WP 130 12 [.ref x0, .int x1] (.int y0 :: .int y1 :: st) h Q ↔ ((y0 ≤ y1 → WP 130 27 [.ref x0, .int x1] (st) h Q) ∧ (¬ y0 ≤ y1 → WP 130 15 [.ref x0, .int x1] (st) h Q))) ∧
  (∀ (x0 : Nat) (x1 : Int32) (st : List Value) (h : AH) (Q : Option Value → AH → Prop), WP 130 15 [.ref x0, .int x1] (st) h Q ↔ WP 130 16 [.ref x0, .int x1] (.ref x0 :: st) h Q) ∧
  (∀ (x0 : Nat) (x1 : Int32) (y0 : Nat) (st : List Value) (h : AH) (Q : Option Value → AH → Prop) (ht : hT h y0 = 12), WP 130 16 [.ref x0, .int x1] (.ref y0 :: st) h Q ↔ WP 130 19 [.ref x0, .int x1] (.ref (hR h y0 5) :: st) h Q) ∧
  (∀ (x0 : Nat) (x1 : Int32) (y0 : Nat) (st : List Value) (h : AH) (Q : Option Value → AH → Prop) (ht : hT h y0 = 6), WP 130 19 [.ref x0, .int x1] (.ref y0 :: st) h Q ↔ WP 130 22 [.ref x0, .int x1] (.ref (hR h y0 2) :: st) h Q) ∧
  (∀ (x0 : Nat) (x1 : Int32) (st : List Value) (h : AH) (Q : Option Value → AH → Prop), WP 130 22 [.ref x0, .int x1] (st) h Q ↔ WP 130 23 [.ref x0, .int x1] (.int x1 :: st) h Q) ∧
  (∀ (x0 : Nat) (x1 : Int32) (y0 : Int32) (y1 : Nat) (st : List Value) (h : AH) (Q : Option Value → AH → Prop) (ht : hT h y1 = 100 ∨ hT h y1 = 110) (hi : inb y0 (hL h y1) = true), WP 130 23 [.ref x0, .int x1] (.int y0 :: .ref y1 :: st) h Q ↔ WP 130 24 [.ref x0, .int x1] (.int (hI h y1 y0.toNatClampNeg) :: st) h Q) ∧
  (∀ (x0 : Nat) (x1 : Int32) (st : List Value) (h : AH) (Q : Option Value → AH → Prop), WP 130 24 [.ref x0, .int x1] (st) h Q ↔ WP 130 28 [.ref x0, .int x1] (st) h Q) ∧
  (∀ (x0 : Nat) (x1 : Int32) (st : List Value) (h : AH) (Q : Option Value → AH → Prop), WP 130 27 [.ref x0, .int x1] (st) h Q ↔ WP 130 28 [.ref x0, .int x1] (.int (-1) :: st) h Q) ∧
  (∀ (x0 : Nat) (x1 : Int32) (y0 : Int32) (h : AH) (Q : Option Value → AH → Prop), WP 130 28 [.ref x0, .int x1] ([.int y0]) h Q ↔ Q (some (.int y0)) h) :=
  ⟨fun _ _ _ _ _ => WP_s (show ct 130 0 = some (.iload_n 1, 0, []) by decide +kernel) rfl,
  fun _ _ _ _ _ _ => WZ_lt (show ct 130 1 = some (.ifCond .lt 26, 0, [27]) by decide +kernel) (by decide),
  fun _ _ _ _ _ => WP_s (show ct 130 4 = some (.iload_n 1, 0, []) by decide +kernel) rfl,
  fun _ _ _ _ _ => WP_s (show ct 130 5 = some (.aload_n 0, 0, []) by decide +kernel) rfl,
  fun _ _ _ _ _ _ ht => WH_gR (show ct 130 6 = some (.getfield 41, 1, [11, 5, 2, 579]) by decide +kernel) ht,
  fun _ _ _ _ _ _ ht => WH_gI (show ct 130 9 = some (.getfield 240, 1, [5, 3, 0, 390]) by decide +kernel) (by decide) ht,
  fun _ _ _ _ _ _ _ => WI_ge (show ct 130 12 = some (.if_icmp .ge 15, 0, [27]) by decide +kernel) (by decide),
  fun _ _ _ _ _ => WP_s (show ct 130 15 = some (.aload_n 0, 0, []) by decide +kernel) rfl,
  fun _ _ _ _ _ _ ht => WH_gR (show ct 130 16 = some (.getfield 41, 1, [11, 5, 2, 579]) by decide +kernel) ht,
  fun _ _ _ _ _ _ ht => WH_gR (show ct 130 19 = some (.getfield 241, 1, [5, 2, 2, 388]) by decide +kernel) ht,
  fun _ _ _ _ _ => WP_s (show ct 130 22 = some (.iload_n 1, 0, []) by decide +kernel) rfl,
  fun _ _ _ _ _ _ _ ht hi => WH_iald (show ct 130 23 = some (.iaload, 1, []) by decide +kernel) ht hi,
  fun _ _ _ _ _ => WP_s (show ct 130 24 = some (.goto 4, 0, [28]) by decide +kernel) rfl,
  fun _ _ _ _ _ => WP_s (show ct 130 27 = some (.iconst (-1), 0, []) by decide +kernel) rfl,
  fun _ _ _ _ _ => WR_i (show ct 130 28 = some (.ireturn, 2, [0]) by decide +kernel)⟩
/-! 131: FewBowls.judge(II)I; loop heads [] -/
set_option maxRecDepth 10000 in
theorem w131 : (∀ (x0 : Nat) (x1 : Int32) (x2 : Int32) (st : List Value) (h : AH) (Q : Option Value → AH → Prop), WP 131 0 [.ref x0, .int x1, .int x2] (st) h Q ↔ WP 131 1 [.ref x0, .int x1, .int x2] (.ref x0 :: st) h Q) ∧
  (∀ (x0 : Nat) (x1 : Int32) (x2 : Int32) (st : List Value) (h : AH) (Q : Option Value → AH → Prop), WP 131 1 [.ref x0, .int x1, .int x2] (st) h Q ↔ WP 131 2 [.ref x0, .int x1, .int x2] (.int x1 :: st) h Q) ∧
  (∀ (x0 : Nat) (x1 : Int32) (x2 : Int32) (st : List Value) (h : AH) (Q : Option Value → AH → Prop), WP 131 2 [.ref x0, .int x1, .int x2] (st) h Q ↔ WP 131 3 [.ref x0, .int x1, .int x2] (.int x2 :: st) h Q) ∧
  (∀ (x0 : Nat) (x1 : Int32) (x2 : Int32) (y2 : Nat) (y1 : Int32) (y0 : Int32) (h : AH) (Q : Option Value → AH → Prop) (ht : hT h y2 = 12), WP 131 3 [.ref x0, .int x1, .int x2] ([.int y0, .int y1, .ref y2]) h Q ↔ WPM 137 [.ref y2, .int y1, .int y0] h (fun r h' => WP 131 6 [.ref x0, .int x1, .int x2] (r.toList ++ []) h' Q)) ∧
  (∀ (x0 : Nat) (x1 : Int32) (x2 : Int32) (y0 : Int32) (st : List Value) (h : AH) (Q : Option Value → AH → Prop), WP 131 6 [.ref x0, .int x1, .int x2] (.int y0 :: st) h Q ↔ ((y0 = 0 → WP 131 25 [.ref x0, .int x1, .int x2] (st) h Q) ∧ (¬ y0 = 0 → WP 131 9 [.ref x0, .int x1, .int x2] (st) h Q))) ∧
  (∀ (x0 : Nat) (x1 : Int32) (x2 : Int32) (st : List Value) (h : AH) (Q : Option Value → AH → Prop), WP 131 9 [.ref x0, .int x1, .int x2] (st) h Q ↔ WP 131 10 [.ref x0, .int x1, .int x2] (.ref x0 :: st) h Q) ∧
  (∀ (x0 : Nat) (x1 : Int32) (x2 : Int32) (y0 : Nat) (st : List Value) (h : AH) (Q : Option Value → AH → Prop) (ht : hT h y0 = 12), WP 131 10 [.ref x0, .int x1, .int x2] (.ref y0 :: st) h Q ↔ WP 131 13 [.ref x0, .int x1, .int x2] (.ref (hR h y0 5) :: st) h Q) ∧
  (∀ (x0 : Nat) (x1 : Int32) (x2 : Int32) (st : List Value) (h : AH) (Q : Option Value → AH → Prop), WP 131 13 [.ref x0, .int x1, .int x2] (st) h Q ↔ WP 131 14 [.ref x0, .int x1, .int x2] (.ref x0 :: st) h Q) ∧
  (∀ (x0 : Nat) (x1 : Int32) (x2 : Int32) (y0 : Nat) (st : List Value) (h : AH) (Q : Option Value → AH → Prop) (ht : hT h y0 = 12), WP 131 14 [.ref x0, .int x1, .int x2] (.ref y0 :: st) h Q ↔ WP 131 17 [.ref x0, .int x1, .int x2] (.ref (hR h y0 2) :: st) h Q) ∧
  (∀ (x0 : Nat) (x1 : Int32) (x2 : Int32) (st : List Value) (h : AH) (Q : Option Value → AH → Prop), WP 131 17 [.ref x0, .int x1, .int x2] (st) h Q ↔ WP 131 18 [.ref x0, .int x1, .int x2] (.int x1 :: st) h Q) ∧
  (∀ (x0 : Nat) (x1 : Int32) (x2 : Int32) (st : List Value) (h : AH) (Q : Option Value → AH → Prop), WP 131 18 [.ref x0, .int x1, .int x2] (st) h Q ↔ WP 131 19 [.ref x0, .int x1, .int x2] (.int x2 :: st) h Q) ∧
  (∀ (x0 : Nat) (x1 : Int32) (x2 : Int32) (y3 : Nat) (y2 : Nat) (y1 : Int32) (y0 : Int32) (h : AH) (Q : Option Value → AH → Prop) (ht : hT h y3 = 6), WP 131 19 [.ref x0, .int x1, .int x2] ([.int y0, .int y1, .ref y2, .ref y3]) h Q ↔ WPM 46 [.ref y3, .ref y2, .int y1, .int y0] h (fun r h' => WP 131 22 [.ref x0, .int x1, .int x2] (r.toList ++ []) h' Q)) ∧
  (∀ (x0 : Nat) (x1 : Int32) (x2 : Int32) (st : List Value) (h : AH) (Q : Option Value → AH → Prop), WP 131 22 [.ref x0, .int x1, .int x2] (st) h Q ↔ WP 131 28 [.ref x0, .int x1, .int x2] (st) h Q) ∧
  (∀ (x0 : Nat) (x1 : Int32) (x2 : Int32) (st : List Value) (h : AH) (Q : Option Value → AH → Prop), WP 131 25 [.ref x0, .int x1, .int x2] (st) h Q ↔ WP 131 28 [.ref x0, .int x1, .int x2] (.int (-1000) :: st) h Q) ∧
  (∀ (x0 : Nat) (x1 : Int32) (x2 : Int32) (y0 : Int32) (h : AH) (Q : Option Value → AH → Prop), WP 131 28 [.ref x0, .int x1, .int x2] ([.int y0]) h Q ↔ Q (some (.int y0)) h) :=
  ⟨fun _ _ _ _ _ _ => WP_s (show ct 131 0 = some (.aload_n 0, 0, []) by decide +kernel) rfl,
  fun _ _ _ _ _ _ => WP_s (show ct 131 1 = some (.iload_n 1, 0, []) by decide +kernel) rfl,
  fun _ _ _ _ _ _ => WP_s (show ct 131 2 = some (.iload_n 2, 0, []) by decide +kernel) rfl,
  fun _ _ _ _ _ _ _ _ ht => WC_1 (show ct 131 3 = some (.invokevirtual 167, 3, [137, 3, 1, 12, 0, 840, 842, 25]) by decide +kernel) (Nat.le_of_ble_eq_true rfl) (Nat.le_of_ble_eq_true rfl) rfl rfl ht,
  fun _ _ _ _ _ _ _ => WZ_eq (show ct 131 6 = some (.ifCond .eq 19, 0, [25]) by decide +kernel) (by decide),
  fun _ _ _ _ _ _ => WP_s (show ct 131 9 = some (.aload_n 0, 0, []) by decide +kernel) rfl,
  fun _ _ _ _ _ _ _ ht => WH_gR (show ct 131 10 = some (.getfield 41, 1, [11, 5, 2, 579]) by decide +kernel) ht,
  fun _ _ _ _ _ _ => WP_s (show ct 131 13 = some (.aload_n 0, 0, []) by decide +kernel) rfl,
  fun _ _ _ _ _ _ _ ht => WH_gR (show ct 131 14 = some (.getfield 16, 1, [11, 2, 2, 576]) by decide +kernel) ht,
  fun _ _ _ _ _ _ => WP_s (show ct 131 17 = some (.iload_n 1, 0, []) by decide +kernel) rfl,
  fun _ _ _ _ _ _ => WP_s (show ct 131 18 = some (.iload_n 2, 0, []) by decide +kernel) rfl,
  fun _ _ _ _ _ _ _ _ _ ht => WC_1 (show ct 131 19 = some (.invokevirtual 244, 3, [46, 4, 1, 6, 0, 1136, 1137, 1138]) by decide +kernel) (Nat.le_of_ble_eq_true rfl) (Nat.le_of_ble_eq_true rfl) rfl rfl ht,
  fun _ _ _ _ _ _ => WP_s (show ct 131 22 = some (.goto 6, 0, [28]) by decide +kernel) rfl,
  fun _ _ _ _ _ _ => WP_s (show ct 131 25 = some (.sipush (-1000), 0, []) by decide +kernel) rfl,
  fun _ _ _ _ _ _ => WR_i (show ct 131 28 = some (.ireturn, 2, [0]) by decide +kernel)⟩
/-! 132: FewBowls.judged(I)I; loop heads [] -/
set_option maxRecDepth 10000 in
theorem w132 : (∀ (x0 : Nat) (x1 : Int32) (st : List Value) (h : AH) (Q : Option Value → AH → Prop), WP 132 0 [.ref x0, .int x1] (st) h Q ↔ WP 132 1 [.ref x0, .int x1] (.int x1 :: st) h Q) ∧
  (∀ (x0 : Nat) (x1 : Int32) (st : List Value) (h : AH) (Q : Option Value → AH → Prop), WP 132 28 [.ref x0, .int x1] (st) h Q ↔ WP 132 29 [.ref x0, .int x1] (.ref x0 :: st) h Q) ∧
  (∀ (x0 : Nat) (x1 : Int32) (y0 : Nat) (st : List Value) (h : AH) (Q : Option Value → AH → Prop) (ht : hT h y0 = 12), WP 132 29 [.ref x0, .int x1] (.ref y0 :: st) h Q ↔ WP 132 32 [.ref x0, .int x1] (.ref (hR h y0 5) :: st) h Q) ∧
  (∀ (x0 : Nat) (x1 : Int32) (y0 : Nat) (st : List Value) (h : AH) (Q : Option Value → AH → Prop) (ht : hT h y0 = 6), WP 132 32 [.ref x0, .int x1] (.ref y0 :: st) h Q ↔ WP 132 35 [.ref x0, .int x1] (.int (hI h y0 4) :: st) h Q) ∧
  (∀ (x0 : Nat) (x1 : Int32) (y0 : Int32) (h : AH) (Q : Option Value → AH → Prop), WP 132 35 [.ref x0, .int x1] ([.int y0]) h Q ↔ Q (some (.int y0)) h) ∧
  (∀ (x0 : Nat) (x1 : Int32) (st : List Value) (h : AH) (Q : Option Value → AH → Prop), WP 132 36 [.ref x0, .int x1] (st) h Q ↔ WP 132 37 [.ref x0, .int x1] (.ref x0 :: st) h Q) ∧
  (∀ (x0 : Nat) (x1 : Int32) (y0 : Nat) (st : List Value) (h : AH) (Q : Option Value → AH → Prop) (ht : hT h y0 = 12), WP 132 37 [.ref x0, .int x1] (.ref y0 :: st) h Q ↔ WP 132 40 [.ref x0, .int x1] (.ref (hR h y0 5) :: st) h Q) ∧
  (∀ (x0 : Nat) (x1 : Int32) (y0 : Nat) (st : List Value) (h : AH) (Q : Option Value → AH → Prop) (ht : hT h y0 = 6), WP 132 40 [.ref x0, .int x1] (.ref y0 :: st) h Q ↔ WP 132 43 [.ref x0, .int x1] (.int (hI h y0 5) :: st) h Q) ∧
  (∀ (x0 : Nat) (x1 : Int32) (y0 : Int32) (h : AH) (Q : Option Value → AH → Prop), WP 132 43 [.ref x0, .int x1] ([.int y0]) h Q ↔ Q (some (.int y0)) h) ∧
  (∀ (x0 : Nat) (x1 : Int32) (st : List Value) (h : AH) (Q : Option Value → AH → Prop), WP 132 44 [.ref x0, .int x1] (st) h Q ↔ WP 132 45 [.ref x0, .int x1] (.int (-1) :: st) h Q) ∧
  (∀ (x0 : Nat) (x1 : Int32) (y0 : Int32) (h : AH) (Q : Option Value → AH → Prop), WP 132 45 [.ref x0, .int x1] ([.int y0]) h Q ↔ Q (some (.int y0)) h) :=
  ⟨fun _ _ _ _ _ => WP_s (show ct 132 0 = some (.iload_n 1, 0, []) by decide +kernel) rfl,
  fun _ _ _ _ _ => WP_s (show ct 132 28 = some (.aload_n 0, 0, []) by decide +kernel) rfl,
  fun _ _ _ _ _ _ ht => WH_gR (show ct 132 29 = some (.getfield 41, 1, [11, 5, 2, 579]) by decide +kernel) ht,
  fun _ _ _ _ _ _ ht => WH_gI (show ct 132 32 = some (.getfield 247, 1, [5, 4, 0, 392]) by decide +kernel) (by decide) ht,
  fun _ _ _ _ _ => WR_i (show ct 132 35 = some (.ireturn, 2, [0]) by decide +kernel),
  fun _ _ _ _ _ => WP_s (show ct 132 36 = some (.aload_n 0, 0, []) by decide +kernel) rfl,
  fun _ _ _ _ _ _ ht => WH_gR (show ct 132 37 = some (.getfield 41, 1, [11, 5, 2, 579]) by decide +kernel) ht,
  fun _ _ _ _ _ _ ht => WH_gI (show ct 132 40 = some (.getfield 250, 1, [5, 5, 0, 394]) by decide +kernel) (by decide) ht,
  fun _ _ _ _ _ => WR_i (show ct 132 43 = some (.ireturn, 2, [0]) by decide +kernel),
  fun _ _ _ _ _ => WP_s (show ct 132 44 = some (.iconst (-1), 0, []) by decide +kernel) rfl,
  fun _ _ _ _ _ => WR_i (show ct 132 45 = some (.ireturn, 2, [0]) by decide +kernel)⟩
/-! 133: FewBowls.spare(II)I; loop heads [] -/
set_option maxRecDepth 10000 in
theorem w133 : (∀ (x0 : Nat) (x1 : Int32) (x2 : Int32) (st : List Value) (h : AH) (Q : Option Value → AH → Prop), WP 133 0 [.ref x0, .int x1, .int x2] (st) h Q ↔ WP 133 1 [.ref x0, .int x1, .int x2] (.ref x0 :: st) h Q) ∧
  (∀ (x0 : Nat) (x1 : Int32) (x2 : Int32) (st : List Value) (h : AH) (Q : Option Value → AH → Prop), WP 133 1 [.ref x0, .int x1, .int x2] (st) h Q ↔ WP 133 2 [.ref x0, .int x1, .int x2] (.int x1 :: st) h Q) ∧
  (∀ (x0 : Nat) (x1 : Int32) (x2 : Int32) (st : List Value) (h : AH) (Q : Option Value → AH → Prop), WP 133 2 [.ref x0, .int x1, .int x2] (st) h Q ↔ WP 133 3 [.ref x0, .int x1, .int x2] (.int x2 :: st) h Q) ∧
  (∀ (x0 : Nat) (x1 : Int32) (x2 : Int32) (y2 : Nat) (y1 : Int32) (y0 : Int32) (h : AH) (Q : Option Value → AH → Prop) (ht : hT h y2 = 12), WP 133 3 [.ref x0, .int x1, .int x2] ([.int y0, .int y1, .ref y2]) h Q ↔ WPM 137 [.ref y2, .int y1, .int y0] h (fun r h' => WP 133 6 [.ref x0, .int x1, .int x2] (r.toList ++ []) h' Q)) ∧
  (∀ (x0 : Nat) (x1 : Int32) (x2 : Int32) (y0 : Int32) (st : List Value) (h : AH) (Q : Option Value → AH → Prop), WP 133 6 [.ref x0, .int x1, .int x2] (.int y0 :: st) h Q ↔ ((y0 = 0 → WP 133 25 [.ref x0, .int x1, .int x2] (st) h Q) ∧ (¬ y0 = 0 → WP 133 9 [.ref x0, .int x1, .int x2] (st) h Q))) ∧
  (∀ (x0 : Nat) (x1 : Int32) (x2 : Int32) (st : List Value) (h : AH) (Q : Option Value → AH → Prop), WP 133 9 [.ref x0, .int x1, .int x2] (st) h Q ↔ WP 133 10 [.ref x0, .int x1, .int x2] (.ref x0 :: st) h Q) ∧
  (∀ (x0 : Nat) (x1 : Int32) (x2 : Int32) (y0 : Nat) (st : List Value) (h : AH) (Q : Option Value → AH → Prop) (ht : hT h y0 = 12), WP 133 10 [.ref x0, .int x1, .int x2] (.ref y0 :: st) h Q ↔ WP 133 13 [.ref x0, .int x1, .int x2] (.ref (hR h y0 5) :: st) h Q) ∧
  (∀ (x0 : Nat) (x1 : Int32) (x2 : Int32) (st : List Value) (h : AH) (Q : Option Value → AH → Prop), WP 133 13 [.ref x0, .int x1, .int x2] (st) h Q ↔ WP 133 14 [.ref x0, .int x1, .int x2] (.ref x0 :: st) h Q) ∧
  (∀ (x0 : Nat) (x1 : Int32) (x2 : Int32) (y0 : Nat) (st : List Value) (h : AH) (Q : Option Value → AH → Prop) (ht : hT h y0 = 12), WP 133 14 [.ref x0, .int x1, .int x2] (.ref y0 :: st) h Q ↔ WP 133 17 [.ref x0, .int x1, .int x2] (.ref (hR h y0 2) :: st) h Q) ∧
  (∀ (x0 : Nat) (x1 : Int32) (x2 : Int32) (st : List Value) (h : AH) (Q : Option Value → AH → Prop), WP 133 17 [.ref x0, .int x1, .int x2] (st) h Q ↔ WP 133 18 [.ref x0, .int x1, .int x2] (.int x1 :: st) h Q) ∧
  (∀ (x0 : Nat) (x1 : Int32) (x2 : Int32) (st : List Value) (h : AH) (Q : Option Value → AH → Prop), WP 133 18 [.ref x0, .int x1, .int x2] (st) h Q ↔ WP 133 19 [.ref x0, .int x1, .int x2] (.int x2 :: st) h Q) ∧
  (∀ (x0 : Nat) (x1 : Int32) (x2 : Int32) (y3 : Nat) (y2 : Nat) (y1 : Int32) (y0 : Int32) (h : AH) (Q : Option Value → AH → Prop) (ht : hT h y3 = 6), WP 133 19 [.ref x0, .int x1, .int x2] ([.int y0, .int y1, .ref y2, .ref y3]) h Q ↔ WPM 47 [.ref y3, .ref y2, .int y1, .int y0] h (fun r h' => WP 133 22 [.ref x0, .int x1, .int x2] (r.toList ++ []) h' Q)) ∧
  (∀ (x0 : Nat) (x1 : Int32) (x2 : Int32) (st : List Value) (h : AH) (Q : Option Value → AH → Prop), WP 133 22 [.ref x0, .int x1, .int x2] (st) h Q ↔ WP 133 27 [.ref x0, .int x1, .int x2] (st) h Q) ∧
  (∀ (x0 : Nat) (x1 : Int32) (x2 : Int32) (st : List Value) (h : AH) (Q : Option Value → AH → Prop), WP 133 25 [.ref x0, .int x1, .int x2] (st) h Q ↔ WP 133 27 [.ref x0, .int x1, .int x2] (.int (-2) :: st) h Q) ∧
  (∀ (x0 : Nat) (x1 : Int32) (x2 : Int32) (y0 : Int32) (h : AH) (Q : Option Value → AH → Prop), WP 133 27 [.ref x0, .int x1, .int x2] ([.int y0]) h Q ↔ Q (some (.int y0)) h) :=
  ⟨fun _ _ _ _ _ _ => WP_s (show ct 133 0 = some (.aload_n 0, 0, []) by decide +kernel) rfl,
  fun _ _ _ _ _ _ => WP_s (show ct 133 1 = some (.iload_n 1, 0, []) by decide +kernel) rfl,
  fun _ _ _ _ _ _ => WP_s (show ct 133 2 = some (.iload_n 2, 0, []) by decide +kernel) rfl,
  fun _ _ _ _ _ _ _ _ ht => WC_1 (show ct 133 3 = some (.invokevirtual 167, 3, [137, 3, 1, 12, 0, 840, 842, 25]) by decide +kernel) (Nat.le_of_ble_eq_true rfl) (Nat.le_of_ble_eq_true rfl) rfl rfl ht,
  fun _ _ _ _ _ _ _ => WZ_eq (show ct 133 6 = some (.ifCond .eq 19, 0, [25]) by decide +kernel) (by decide),
  fun _ _ _ _ _ _ => WP_s (show ct 133 9 = some (.aload_n 0, 0, []) by decide +kernel) rfl,
  fun _ _ _ _ _ _ _ ht => WH_gR (show ct 133 10 = some (.getfield 41, 1, [11, 5, 2, 579]) by decide +kernel) ht,
  fun _ _ _ _ _ _ => WP_s (show ct 133 13 = some (.aload_n 0, 0, []) by decide +kernel) rfl,
  fun _ _ _ _ _ _ _ ht => WH_gR (show ct 133 14 = some (.getfield 16, 1, [11, 2, 2, 576]) by decide +kernel) ht,
  fun _ _ _ _ _ _ => WP_s (show ct 133 17 = some (.iload_n 1, 0, []) by decide +kernel) rfl,
  fun _ _ _ _ _ _ => WP_s (show ct 133 18 = some (.iload_n 2, 0, []) by decide +kernel) rfl,
  fun _ _ _ _ _ _ _ _ _ ht => WC_1 (show ct 133 19 = some (.invokevirtual 253, 3, [47, 4, 1, 6, 0, 1158, 1159, 1160]) by decide +kernel) (Nat.le_of_ble_eq_true rfl) (Nat.le_of_ble_eq_true rfl) rfl rfl ht,
  fun _ _ _ _ _ _ => WP_s (show ct 133 22 = some (.goto 5, 0, [27]) by decide +kernel) rfl,
  fun _ _ _ _ _ _ => WP_s (show ct 133 25 = some (.bipush (-2), 0, []) by decide +kernel) rfl,
  fun _ _ _ _ _ _ => WR_i (show ct 133 27 = some (.ireturn, 2, [0]) by decide +kernel)⟩
/-! 134: FewBowls.spareAt(I)I; loop heads [] -/
set_option maxRecDepth 10000 in
theorem w134 : (∀ (x0 : Nat) (x1 : Int32) (st : List Value) (h : AH) (Q : Option Value → AH → Prop), WP 134 0 [.ref x0, .int x1] (st) h Q ↔ WP 134 1 [.ref x0, .int x1] (.int x1 :: st) h Q) ∧
  (∀ (x0 : Nat) (x1 : Int32) (y0 : Int32) (st : List Value) (h : AH) (Q : Option Value → AH → Prop), WP 134 1 [.ref x0, .int x1] (.int y0 :: st) h Q ↔ ((y0 < 0 → WP 134 27 [.ref x0, .int x1] (st) h Q) ∧ (¬ y0 < 0 → WP 134 4 [.ref x0, .int x1] (st) h Q))) ∧
  (∀ (x0 : Nat) (x1 : Int32) (st : List Value) (h : AH) (Q : Option Value → AH → Prop), WP 134 4 [.ref x0, .int x1] (st) h Q ↔ WP 134 5 [.ref x0, .int x1] (.int x1 :: st) h Q) ∧
  (∀ (x0 : Nat) (x1 : Int32) (st : List Value) (h : AH) (Q : Option Value → AH → Prop), WP 134 5 [.ref x0, .int x1] (st) h Q ↔ WP 134 6 [.ref x0, .int x1] (.ref x0 :: st) h Q) ∧
  (∀ (x0 : Nat) (x1 : Int32) (y0 : Nat) (st : List Value) (h : AH) (Q : Option Value → AH → Prop) (ht : hT h y0 = 12), WP 134 6 [.ref x0, .int x1] (.ref y0 :: st) h Q ↔ WP 134 9 [.ref x0, .int x1] (.ref (hR h y0 5) :: st) h Q) ∧
  (∀ (x0 : Nat) (x1 : Int32) (y0 : Nat) (st : List Value) (h : AH) (Q : Option Value → AH → Prop) (ht : hT h y0 = 6), WP 134 9 [.ref x0, .int x1] (.ref y0 :: st) h Q ↔ WP 134 12 [.ref x0, .int x1] (.int (hI h y0 7) :: st) h Q) ∧
  (∀ (x0 : Nat) (x1 : Int32) (y0 : Int32) (y1 : Int32) (st : List Value) (h : AH) (Q : Option Value → AH → Prop), WP 134 12 [.ref x0, .int x1] (.int y0 :: .int y1 :: st) h Q ↔ ((y0 ≤ y1 → WP 134 27 [.ref x0, .int x1] (st) h Q) ∧ (¬ y0 ≤ y1 → WP 134 15 [.ref x0, .int x1] (st) h Q))) ∧
  (∀ (x0 : Nat) (x1 : Int32) (st : List Value) (h : AH) (Q : Option Value → AH → Prop), WP 134 15 [.ref x0, .int x1] (st) h Q ↔ WP 134 16 [.ref x0, .int x1] (.ref x0 :: st) h Q) ∧
  (∀ (x0 : Nat) (x1 : Int32) (y0 : Nat) (st : List Value) (h : AH) (Q : Option Value → AH → Prop) (ht : hT h y0 = 12), WP 134 16 [.ref x0, .int x1] (.ref y0 :: st) h Q ↔ WP 134 19 [.ref x0, .int x1] (.ref (hR h y0 5) :: st) h Q) ∧
  (∀ (x0 : Nat) (x1 : Int32) (y0 : Nat) (st : List Value) (h : AH) (Q : Option Value → AH → Prop) (ht : hT h y0 = 6), WP 134 19 [.ref x0, .int x1] (.ref y0 :: st) h Q ↔ WP 134 22 [.ref x0, .int x1] (.ref (hR h y0 6) :: st) h Q) ∧
  (∀ (x0 : Nat) (x1 : Int32) (st : List Value) (h : AH) (Q : Option Value → AH → Prop), WP 134 22 [.ref x0, .int x1] (st) h Q ↔ WP 134 23 [.ref x0, .int x1] (.int x1 :: st) h Q) ∧
  (∀ (x0 : Nat) (x1 : Int32) (y0 : Int32) (y1 : Nat) (st : List Value) (h : AH) (Q : Option Value → AH → Prop) (ht : hT h y1 = 100 ∨ hT h y1 = 110) (hi : inb y0 (hL h y1) = true), WP 134 23 [.ref x0, .int x1] (.int y0 :: .ref y1 :: st) h Q ↔ WP 134 24 [.ref x0, .int x1] (.int (hI h y1 y0.toNatClampNeg) :: st) h Q) ∧
  (∀ (x0 : Nat) (x1 : Int32) (st : List Value) (h : AH) (Q : Option Value → AH → Prop), WP 134 24 [.ref x0, .int x1] (st) h Q ↔ WP 134 28 [.ref x0, .int x1] (st) h Q) ∧
  (∀ (x0 : Nat) (x1 : Int32) (st : List Value) (h : AH) (Q : Option Value → AH → Prop), WP 134 27 [.ref x0, .int x1] (st) h Q ↔ WP 134 28 [.ref x0, .int x1] (.int (-1) :: st) h Q) ∧
  (∀ (x0 : Nat) (x1 : Int32) (y0 : Int32) (h : AH) (Q : Option Value → AH → Prop), WP 134 28 [.ref x0, .int x1] ([.int y0]) h Q ↔ Q (some (.int y0)) h) :=
  ⟨fun _ _ _ _ _ => WP_s (show ct 134 0 = some (.iload_n 1, 0, []) by decide +kernel) rfl,
  fun _ _ _ _ _ _ => WZ_lt (show ct 134 1 = some (.ifCond .lt 26, 0, [27]) by decide +kernel) (by decide),
  fun _ _ _ _ _ => WP_s (show ct 134 4 = some (.iload_n 1, 0, []) by decide +kernel) rfl,
  fun _ _ _ _ _ => WP_s (show ct 134 5 = some (.aload_n 0, 0, []) by decide +kernel) rfl,
  fun _ _ _ _ _ _ ht => WH_gR (show ct 134 6 = some (.getfield 41, 1, [11, 5, 2, 579]) by decide +kernel) ht,
  fun _ _ _ _ _ _ ht => WH_gI (show ct 134 9 = some (.getfield 256, 1, [5, 7, 0, 398]) by decide +kernel) (by decide) ht,
  fun _ _ _ _ _ _ _ => WI_ge (show ct 134 12 = some (.if_icmp .ge 15, 0, [27]) by decide +kernel) (by decide),
  fun _ _ _ _ _ => WP_s (show ct 134 15 = some (.aload_n 0, 0, []) by decide +kernel) rfl,
  fun _ _ _ _ _ _ ht => WH_gR (show ct 134 16 = some (.getfield 41, 1, [11, 5, 2, 579]) by decide +kernel) ht,
  fun _ _ _ _ _ _ ht => WH_gR (show ct 134 19 = some (.getfield 259, 1, [5, 6, 2, 396]) by decide +kernel) ht,
  fun _ _ _ _ _ => WP_s (show ct 134 22 = some (.iload_n 1, 0, []) by decide +kernel) rfl,
  fun _ _ _ _ _ _ _ ht hi => WH_iald (show ct 134 23 = some (.iaload, 1, []) by decide +kernel) ht hi,
  fun _ _ _ _ _ => WP_s (show ct 134 24 = some (.goto 4, 0, [28]) by decide +kernel) rfl,
  fun _ _ _ _ _ => WP_s (show ct 134 27 = some (.iconst (-1), 0, []) by decide +kernel) rfl,
  fun _ _ _ _ _ => WR_i (show ct 134 28 = some (.ireturn, 2, [0]) by decide +kernel)⟩
/-! 135: FewBowls.count(I)I; loop heads [] -/
set_option maxRecDepth 10000 in
theorem w135 : (∀ (x0 : Nat) (x1 : Int32) (st : List Value) (h : AH) (Q : Option Value → AH → Prop), WP 135 0 [.ref x0, .int x1] (st) h Q ↔ WP 135 1 [.ref x0, .int x1] (.int x1 :: st) h Q) ∧
  (∀ (x0 : Nat) (x1 : Int32) (st : List Value) (h : AH) (Q : Option Value → AH → Prop), WP 135 28 [.ref x0, .int x1] (st) h Q ↔ WP 135 29 [.ref x0, .int x1] (.ref x0 :: st) h Q) ∧
  (∀ (x0 : Nat) (x1 : Int32) (y0 : Nat) (st : List Value) (h : AH) (Q : Option Value → AH → Prop) (ht : hT h y0 = 12), WP 135 29 [.ref x0, .int x1] (.ref y0 :: st) h Q ↔ WP 135 32 [.ref x0, .int x1] (.ref (hR h y0 2) :: st) h Q) ∧
  (∀ (x0 : Nat) (x1 : Int32) (y0 : Nat) (st : List Value) (h : AH) (Q : Option Value → AH → Prop) (ht : hT h y0 = 4), WP 135 32 [.ref x0, .int x1] (.ref y0 :: st) h Q ↔ WP 135 35 [.ref x0, .int x1] (.int (hI h y0 0) :: st) h Q) ∧
  (∀ (x0 : Nat) (x1 : Int32) (y0 : Int32) (h : AH) (Q : Option Value → AH → Prop), WP 135 35 [.ref x0, .int x1] ([.int y0]) h Q ↔ Q (some (.int y0)) h) ∧
  (∀ (x0 : Nat) (x1 : Int32) (st : List Value) (h : AH) (Q : Option Value → AH → Prop), WP 135 36 [.ref x0, .int x1] (st) h Q ↔ WP 135 37 [.ref x0, .int x1] (.ref x0 :: st) h Q) ∧
  (∀ (x0 : Nat) (x1 : Int32) (y0 : Nat) (st : List Value) (h : AH) (Q : Option Value → AH → Prop) (ht : hT h y0 = 12), WP 135 37 [.ref x0, .int x1] (.ref y0 :: st) h Q ↔ WP 135 40 [.ref x0, .int x1] (.ref (hR h y0 5) :: st) h Q) ∧
  (∀ (x0 : Nat) (x1 : Int32) (y0 : Nat) (st : List Value) (h : AH) (Q : Option Value → AH → Prop) (ht : hT h y0 = 6), WP 135 40 [.ref x0, .int x1] (.ref y0 :: st) h Q ↔ WP 135 43 [.ref x0, .int x1] (.int (hI h y0 3) :: st) h Q) ∧
  (∀ (x0 : Nat) (x1 : Int32) (y0 : Int32) (h : AH) (Q : Option Value → AH → Prop), WP 135 43 [.ref x0, .int x1] ([.int y0]) h Q ↔ Q (some (.int y0)) h) ∧
  (∀ (x0 : Nat) (x1 : Int32) (st : List Value) (h : AH) (Q : Option Value → AH → Prop), WP 135 44 [.ref x0, .int x1] (st) h Q ↔ WP 135 45 [.ref x0, .int x1] (.ref x0 :: st) h Q) ∧
  (∀ (x0 : Nat) (x1 : Int32) (y0 : Nat) (st : List Value) (h : AH) (Q : Option Value → AH → Prop) (ht : hT h y0 = 12), WP 135 45 [.ref x0, .int x1] (.ref y0 :: st) h Q ↔ WP 135 48 [.ref x0, .int x1] (.int (hI h y0 1) :: st) h Q) ∧
  (∀ (x0 : Nat) (x1 : Int32) (y0 : Int32) (h : AH) (Q : Option Value → AH → Prop), WP 135 48 [.ref x0, .int x1] ([.int y0]) h Q ↔ Q (some (.int y0)) h) ∧
  (∀ (x0 : Nat) (x1 : Int32) (st : List Value) (h : AH) (Q : Option Value → AH → Prop), WP 135 49 [.ref x0, .int x1] (st) h Q ↔ WP 135 50 [.ref x0, .int x1] (.int (-1) :: st) h Q) ∧
  (∀ (x0 : Nat) (x1 : Int32) (y0 : Int32) (h : AH) (Q : Option Value → AH → Prop), WP 135 50 [.ref x0, .int x1] ([.int y0]) h Q ↔ Q (some (.int y0)) h) :=
  ⟨fun _ _ _ _ _ => WP_s (show ct 135 0 = some (.iload_n 1, 0, []) by decide +kernel) rfl,
  fun _ _ _ _ _ => WP_s (show ct 135 28 = some (.aload_n 0, 0, []) by decide +kernel) rfl,
  fun _ _ _ _ _ _ ht => WH_gR (show ct 135 29 = some (.getfield 16, 1, [11, 2, 2, 576]) by decide +kernel) ht,
  fun _ _ _ _ _ _ ht => WH_gI (show ct 135 32 = some (.getfield 104, 1, [3, 0, 0, 138]) by decide +kernel) (by decide) ht,
  fun _ _ _ _ _ => WR_i (show ct 135 35 = some (.ireturn, 2, [0]) by decide +kernel),
  fun _ _ _ _ _ => WP_s (show ct 135 36 = some (.aload_n 0, 0, []) by decide +kernel) rfl,
  fun _ _ _ _ _ _ ht => WH_gR (show ct 135 37 = some (.getfield 41, 1, [11, 5, 2, 579]) by decide +kernel) ht,
  fun _ _ _ _ _ _ ht => WH_gI (show ct 135 40 = some (.getfield 240, 1, [5, 3, 0, 390]) by decide +kernel) (by decide) ht,
  fun _ _ _ _ _ => WR_i (show ct 135 43 = some (.ireturn, 2, [0]) by decide +kernel),
  fun _ _ _ _ _ => WP_s (show ct 135 44 = some (.aload_n 0, 0, []) by decide +kernel) rfl,
  fun _ _ _ _ _ _ ht => WH_gI (show ct 135 45 = some (.getfield 82, 1, [11, 1, 0, 575]) by decide +kernel) (by decide) ht,
  fun _ _ _ _ _ => WR_i (show ct 135 48 = some (.ireturn, 2, [0]) by decide +kernel),
  fun _ _ _ _ _ => WP_s (show ct 135 49 = some (.iconst (-1), 0, []) by decide +kernel) rfl,
  fun _ _ _ _ _ => WR_i (show ct 135 50 = some (.ireturn, 2, [0]) by decide +kernel)⟩
/-! 136: FewBowls.told(I)Z; loop heads [] -/
set_option maxRecDepth 10000 in
theorem w136 : (∀ (x0 : Nat) (x1 : Int32) (st : List Value) (h : AH) (Q : Option Value → AH → Prop), WP 136 0 [.ref x0, .int x1] (st) h Q ↔ WP 136 1 [.ref x0, .int x1] (.ref x0 :: st) h Q) ∧
  (∀ (x0 : Nat) (x1 : Int32) (y0 : Nat) (st : List Value) (h : AH) (Q : Option Value → AH → Prop) (ht : hT h y0 = 12), WP 136 1 [.ref x0, .int x1] (.ref y0 :: st) h Q ↔ WP 136 4 [.ref x0, .int x1] (.ref (hR h y0 2) :: st) h Q) ∧
  (∀ (x0 : Nat) (x1 : Int32) (y0 : Nat) (st : List Value) (h : AH) (Q : Option Value → AH → Prop) (ht : hT h y0 = 4), WP 136 4 [.ref x0, .int x1] (.ref y0 :: st) h Q ↔ WP 136 7 [.ref x0, .int x1] (.int (hI h y0 0) :: st) h Q) ∧
  (∀ (x0 : Nat) (x1 : Int32) (y0 : Int32) (st : List Value) (h : AH) (Q : Option Value → AH → Prop), WP 136 7 [.ref x0, .int x1] (.int y0 :: st) h Q ↔ ((y0 ≤ 0 → WP 136 24 [.ref x0, .int x1] (st) h Q) ∧ (¬ y0 ≤ 0 → WP 136 10 [.ref x0, .int x1] (st) h Q))) ∧
  (∀ (x0 : Nat) (x1 : Int32) (st : List Value) (h : AH) (Q : Option Value → AH → Prop), WP 136 10 [.ref x0, .int x1] (st) h Q ↔ WP 136 11 [.ref x0, .int x1] (.int x1 :: st) h Q) ∧
  (∀ (x0 : Nat) (x1 : Int32) (y0 : Int32) (st : List Value) (h : AH) (Q : Option Value → AH → Prop), WP 136 11 [.ref x0, .int x1] (.int y0 :: st) h Q ↔ ((y0 < 0 → WP 136 24 [.ref x0, .int x1] (st) h Q) ∧ (¬ y0 < 0 → WP 136 14 [.ref x0, .int x1] (st) h Q))) ∧
  (∀ (x0 : Nat) (x1 : Int32) (st : List Value) (h : AH) (Q : Option Value → AH → Prop), WP 136 14 [.ref x0, .int x1] (st) h Q ↔ WP 136 15 [.ref x0, .int x1] (.int x1 :: st) h Q) ∧
  (∀ (x0 : Nat) (x1 : Int32) (st : List Value) (h : AH) (Q : Option Value → AH → Prop), WP 136 15 [.ref x0, .int x1] (st) h Q ↔ WP 136 17 [.ref x0, .int x1] (.int (7) :: st) h Q) ∧
  (∀ (x0 : Nat) (x1 : Int32) (y0 : Int32) (y1 : Int32) (st : List Value) (h : AH) (Q : Option Value → AH → Prop), WP 136 17 [.ref x0, .int x1] (.int y0 :: .int y1 :: st) h Q ↔ ((y0 < y1 → WP 136 24 [.ref x0, .int x1] (st) h Q) ∧ (¬ y0 < y1 → WP 136 20 [.ref x0, .int x1] (st) h Q))) ∧
  (∀ (x0 : Nat) (x1 : Int32) (st : List Value) (h : AH) (Q : Option Value → AH → Prop), WP 136 20 [.ref x0, .int x1] (st) h Q ↔ WP 136 21 [.ref x0, .int x1] (.int (1) :: st) h Q) ∧
  (∀ (x0 : Nat) (x1 : Int32) (st : List Value) (h : AH) (Q : Option Value → AH → Prop), WP 136 21 [.ref x0, .int x1] (st) h Q ↔ WP 136 25 [.ref x0, .int x1] (st) h Q) ∧
  (∀ (x0 : Nat) (x1 : Int32) (st : List Value) (h : AH) (Q : Option Value → AH → Prop), WP 136 24 [.ref x0, .int x1] (st) h Q ↔ WP 136 25 [.ref x0, .int x1] (.int (0) :: st) h Q) ∧
  (∀ (x0 : Nat) (x1 : Int32) (y0 : Int32) (h : AH) (Q : Option Value → AH → Prop) (hz : y0 = 0 ∨ y0 = 1), WP 136 25 [.ref x0, .int x1] ([.int y0]) h Q ↔ Q (some (.int y0)) h) :=
  ⟨fun _ _ _ _ _ => WP_s (show ct 136 0 = some (.aload_n 0, 0, []) by decide +kernel) rfl,
  fun _ _ _ _ _ _ ht => WH_gR (show ct 136 1 = some (.getfield 16, 1, [11, 2, 2, 576]) by decide +kernel) ht,
  fun _ _ _ _ _ _ ht => WH_gI (show ct 136 4 = some (.getfield 104, 1, [3, 0, 0, 138]) by decide +kernel) (by decide) ht,
  fun _ _ _ _ _ _ => WZ_le (show ct 136 7 = some (.ifCond .le 17, 0, [24]) by decide +kernel) (by decide),
  fun _ _ _ _ _ => WP_s (show ct 136 10 = some (.iload_n 1, 0, []) by decide +kernel) rfl,
  fun _ _ _ _ _ _ => WZ_lt (show ct 136 11 = some (.ifCond .lt 13, 0, [24]) by decide +kernel) (by decide),
  fun _ _ _ _ _ => WP_s (show ct 136 14 = some (.iload_n 1, 0, []) by decide +kernel) rfl,
  fun _ _ _ _ _ => WP_s (show ct 136 15 = some (.bipush 7, 0, []) by decide +kernel) rfl,
  fun _ _ _ _ _ _ _ => WI_gt (show ct 136 17 = some (.if_icmp .gt 7, 0, [24]) by decide +kernel) (by decide),
  fun _ _ _ _ _ => WP_s (show ct 136 20 = some (.iconst 1, 0, []) by decide +kernel) rfl,
  fun _ _ _ _ _ => WP_s (show ct 136 21 = some (.goto 4, 0, [25]) by decide +kernel) rfl,
  fun _ _ _ _ _ => WP_s (show ct 136 24 = some (.iconst 0, 0, []) by decide +kernel) rfl,
  fun _ _ _ _ _ hz => WR_z (show ct 136 25 = some (.ireturn, 2, [1]) by decide +kernel) hz⟩
/-! 137: FewBowls.told(II)Z; loop heads [] -/
set_option maxRecDepth 10000 in
theorem w137 : (∀ (x0 : Nat) (x1 : Int32) (x2 : Int32) (st : List Value) (h : AH) (Q : Option Value → AH → Prop), WP 137 0 [.ref x0, .int x1, .int x2] (st) h Q ↔ WP 137 1 [.ref x0, .int x1, .int x2] (.ref x0 :: st) h Q) ∧
  (∀ (x0 : Nat) (x1 : Int32) (x2 : Int32) (st : List Value) (h : AH) (Q : Option Value → AH → Prop), WP 137 1 [.ref x0, .int x1, .int x2] (st) h Q ↔ WP 137 2 [.ref x0, .int x1, .int x2] (.int x1 :: st) h Q) ∧
  (∀ (x0 : Nat) (x1 : Int32) (x2 : Int32) (y1 : Nat) (y0 : Int32) (h : AH) (Q : Option Value → AH → Prop) (ht : hT h y1 = 12), WP 137 2 [.ref x0, .int x1, .int x2] ([.int y0, .ref y1]) h Q ↔ WPM 136 [.ref y1, .int y0] h (fun r h' => WP 137 5 [.ref x0, .int x1, .int x2] (r.toList ++ []) h' Q)) ∧
  (∀ (x0 : Nat) (x1 : Int32) (x2 : Int32) (y0 : Int32) (st : List Value) (h : AH) (Q : Option Value → AH → Prop), WP 137 5 [.ref x0, .int x1, .int x2] (.int y0 :: st) h Q ↔ ((y0 = 0 → WP 137 23 [.ref x0, .int x1, .int x2] (st) h Q) ∧ (¬ y0 = 0 → WP 137 8 [.ref x0, .int x1, .int x2] (st) h Q))) ∧
  (∀ (x0 : Nat) (x1 : Int32) (x2 : Int32) (st : List Value) (h : AH) (Q : Option Value → AH → Prop), WP 137 8 [.ref x0, .int x1, .int x2] (st) h Q ↔ WP 137 9 [.ref x0, .int x1, .int x2] (.int x2 :: st) h Q) ∧
  (∀ (x0 : Nat) (x1 : Int32) (x2 : Int32) (st : List Value) (h : AH) (Q : Option Value → AH → Prop), WP 137 9 [.ref x0, .int x1, .int x2] (st) h Q ↔ WP 137 10 [.ref x0, .int x1, .int x2] (.int (1) :: st) h Q) ∧
  (∀ (x0 : Nat) (x1 : Int32) (x2 : Int32) (y0 : Int32) (y1 : Int32) (st : List Value) (h : AH) (Q : Option Value → AH → Prop), WP 137 10 [.ref x0, .int x1, .int x2] (.int y0 :: .int y1 :: st) h Q ↔ ((y1 < y0 → WP 137 23 [.ref x0, .int x1, .int x2] (st) h Q) ∧ (¬ y1 < y0 → WP 137 13 [.ref x0, .int x1, .int x2] (st) h Q))) ∧
  (∀ (x0 : Nat) (x1 : Int32) (x2 : Int32) (st : List Value) (h : AH) (Q : Option Value → AH → Prop), WP 137 13 [.ref x0, .int x1, .int x2] (st) h Q ↔ WP 137 14 [.ref x0, .int x1, .int x2] (.int x2 :: st) h Q) ∧
  (∀ (x0 : Nat) (x1 : Int32) (x2 : Int32) (st : List Value) (h : AH) (Q : Option Value → AH → Prop), WP 137 14 [.ref x0, .int x1, .int x2] (st) h Q ↔ WP 137 16 [.ref x0, .int x1, .int x2] (.int (14) :: st) h Q) ∧
  (∀ (x0 : Nat) (x1 : Int32) (x2 : Int32) (y0 : Int32) (y1 : Int32) (st : List Value) (h : AH) (Q : Option Value → AH → Prop), WP 137 16 [.ref x0, .int x1, .int x2] (.int y0 :: .int y1 :: st) h Q ↔ ((y0 < y1 → WP 137 23 [.ref x0, .int x1, .int x2] (st) h Q) ∧ (¬ y0 < y1 → WP 137 19 [.ref x0, .int x1, .int x2] (st) h Q))) ∧
  (∀ (x0 : Nat) (x1 : Int32) (x2 : Int32) (st : List Value) (h : AH) (Q : Option Value → AH → Prop), WP 137 19 [.ref x0, .int x1, .int x2] (st) h Q ↔ WP 137 20 [.ref x0, .int x1, .int x2] (.int (1) :: st) h Q) ∧
  (∀ (x0 : Nat) (x1 : Int32) (x2 : Int32) (st : List Value) (h : AH) (Q : Option Value → AH → Prop), WP 137 20 [.ref x0, .int x1, .int x2] (st) h Q ↔ WP 137 24 [.ref x0, .int x1, .int x2] (st) h Q) ∧
  (∀ (x0 : Nat) (x1 : Int32) (x2 : Int32) (st : List Value) (h : AH) (Q : Option Value → AH → Prop), WP 137 23 [.ref x0, .int x1, .int x2] (st) h Q ↔ WP 137 24 [.ref x0, .int x1, .int x2] (.int (0) :: st) h Q) ∧
  (∀ (x0 : Nat) (x1 : Int32) (x2 : Int32) (y0 : Int32) (h : AH) (Q : Option Value → AH → Prop) (hz : y0 = 0 ∨ y0 = 1), WP 137 24 [.ref x0, .int x1, .int x2] ([.int y0]) h Q ↔ Q (some (.int y0)) h) :=
  ⟨fun _ _ _ _ _ _ => WP_s (show ct 137 0 = some (.aload_n 0, 0, []) by decide +kernel) rfl,
  fun _ _ _ _ _ _ => WP_s (show ct 137 1 = some (.iload_n 1, 0, []) by decide +kernel) rfl,
  fun _ _ _ _ _ _ _ ht => WC_1 (show ct 137 2 = some (.invokevirtual 160, 3, [136, 2, 1, 12, 0, 765, 767, 17]) by decide +kernel) (Nat.le_of_ble_eq_true rfl) (Nat.le_of_ble_eq_true rfl) rfl rfl ht,
  fun _ _ _ _ _ _ _ => WZ_eq (show ct 137 5 = some (.ifCond .eq 18, 0, [23]) by decide +kernel) (by decide),
  fun _ _ _ _ _ _ => WP_s (show ct 137 8 = some (.iload_n 2, 0, []) by decide +kernel) rfl,
  fun _ _ _ _ _ _ => WP_s (show ct 137 9 = some (.iconst 1, 0, []) by decide +kernel) rfl,
  fun _ _ _ _ _ _ _ _ => WI_lt (show ct 137 10 = some (.if_icmp .lt 13, 0, [23]) by decide +kernel) (by decide),
  fun _ _ _ _ _ _ => WP_s (show ct 137 13 = some (.iload_n 2, 0, []) by decide +kernel) rfl,
  fun _ _ _ _ _ _ => WP_s (show ct 137 14 = some (.bipush 14, 0, []) by decide +kernel) rfl,
  fun _ _ _ _ _ _ _ _ => WI_gt (show ct 137 16 = some (.if_icmp .gt 7, 0, [23]) by decide +kernel) (by decide),
  fun _ _ _ _ _ _ => WP_s (show ct 137 19 = some (.iconst 1, 0, []) by decide +kernel) rfl,
  fun _ _ _ _ _ _ => WP_s (show ct 137 20 = some (.goto 4, 0, [24]) by decide +kernel) rfl,
  fun _ _ _ _ _ _ => WP_s (show ct 137 23 = some (.iconst 0, 0, []) by decide +kernel) rfl,
  fun _ _ _ _ _ _ hz => WR_z (show ct 137 24 = some (.ireturn, 2, [1]) by decide +kernel) hz⟩
/-! 138: FewBowls.toldForOnce(I)Z; loop heads [] -/
set_option maxRecDepth 10000 in
theorem w138 : (∀ (x0 : Nat) (x1 : Int32) (st : List Value) (h : AH) (Q : Option Value → AH → Prop), WP 138 0 [.ref x0, .int x1] (st) h Q ↔ WP 138 1 [.ref x0, .int x1] (.ref x0 :: st) h Q) ∧
  (∀ (x0 : Nat) (x1 : Int32) (y0 : Nat) (st : List Value) (h : AH) (Q : Option Value → AH → Prop) (ht : hT h y0 = 12), WP 138 1 [.ref x0, .int x1] (.ref y0 :: st) h Q ↔ WP 138 4 [.ref x0, .int x1] (.ref (hR h y0 2) :: st) h Q) ∧
  (∀ (x0 : Nat) (x1 : Int32) (y0 : Nat) (st : List Value) (h : AH) (Q : Option Value → AH → Prop) (ht : hT h y0 = 4), WP 138 4 [.ref x0, .int x1] (.ref y0 :: st) h Q ↔ WP 138 7 [.ref x0, .int x1] (.int (hI h y0 0) :: st) h Q) ∧
  (∀ (x0 : Nat) (x1 : Int32) (y0 : Int32) (st : List Value) (h : AH) (Q : Option Value → AH → Prop), WP 138 7 [.ref x0, .int x1] (.int y0 :: st) h Q ↔ ((y0 ≤ 0 → WP 138 23 [.ref x0, .int x1] (st) h Q) ∧ (¬ y0 ≤ 0 → WP 138 10 [.ref x0, .int x1] (st) h Q))) ∧
  (∀ (x0 : Nat) (x1 : Int32) (st : List Value) (h : AH) (Q : Option Value → AH → Prop), WP 138 10 [.ref x0, .int x1] (st) h Q ↔ WP 138 11 [.ref x0, .int x1] (.int x1 :: st) h Q) ∧
  (∀ (x0 : Nat) (x1 : Int32) (y0 : Int32) (st : List Value) (h : AH) (Q : Option Value → AH → Prop), WP 138 11 [.ref x0, .int x1] (.int y0 :: st) h Q ↔ ((y0 = 0 → WP 138 19 [.ref x0, .int x1] (st) h Q) ∧ (¬ y0 = 0 → WP 138 14 [.ref x0, .int x1] (st) h Q))) ∧
  (∀ (x0 : Nat) (x1 : Int32) (st : List Value) (h : AH) (Q : Option Value → AH → Prop), WP 138 14 [.ref x0, .int x1] (st) h Q ↔ WP 138 15 [.ref x0, .int x1] (.int x1 :: st) h Q) ∧
  (∀ (x0 : Nat) (x1 : Int32) (st : List Value) (h : AH) (Q : Option Value → AH → Prop), WP 138 15 [.ref x0, .int x1] (st) h Q ↔ WP 138 16 [.ref x0, .int x1] (.int (1) :: st) h Q) ∧
  (∀ (x0 : Nat) (x1 : Int32) (y0 : Int32) (y1 : Int32) (st : List Value) (h : AH) (Q : Option Value → AH → Prop), WP 138 16 [.ref x0, .int x1] (.int y0 :: .int y1 :: st) h Q ↔ ((¬ y1 = y0 → WP 138 23 [.ref x0, .int x1] (st) h Q) ∧ (y1 = y0 → WP 138 19 [.ref x0, .int x1] (st) h Q))) ∧
  (∀ (x0 : Nat) (x1 : Int32) (st : List Value) (h : AH) (Q : Option Value → AH → Prop), WP 138 19 [.ref x0, .int x1] (st) h Q ↔ WP 138 20 [.ref x0, .int x1] (.int (1) :: st) h Q) ∧
  (∀ (x0 : Nat) (x1 : Int32) (st : List Value) (h : AH) (Q : Option Value → AH → Prop), WP 138 20 [.ref x0, .int x1] (st) h Q ↔ WP 138 24 [.ref x0, .int x1] (st) h Q) ∧
  (∀ (x0 : Nat) (x1 : Int32) (st : List Value) (h : AH) (Q : Option Value → AH → Prop), WP 138 23 [.ref x0, .int x1] (st) h Q ↔ WP 138 24 [.ref x0, .int x1] (.int (0) :: st) h Q) ∧
  (∀ (x0 : Nat) (x1 : Int32) (y0 : Int32) (h : AH) (Q : Option Value → AH → Prop) (hz : y0 = 0 ∨ y0 = 1), WP 138 24 [.ref x0, .int x1] ([.int y0]) h Q ↔ Q (some (.int y0)) h) :=
  ⟨fun _ _ _ _ _ => WP_s (show ct 138 0 = some (.aload_n 0, 0, []) by decide +kernel) rfl,
  fun _ _ _ _ _ _ ht => WH_gR (show ct 138 1 = some (.getfield 16, 1, [11, 2, 2, 576]) by decide +kernel) ht,
  fun _ _ _ _ _ _ ht => WH_gI (show ct 138 4 = some (.getfield 104, 1, [3, 0, 0, 138]) by decide +kernel) (by decide) ht,
  fun _ _ _ _ _ _ => WZ_le (show ct 138 7 = some (.ifCond .le 16, 0, [23]) by decide +kernel) (by decide),
  fun _ _ _ _ _ => WP_s (show ct 138 10 = some (.iload_n 1, 0, []) by decide +kernel) rfl,
  fun _ _ _ _ _ _ => WZ_eq (show ct 138 11 = some (.ifCond .eq 8, 0, [19]) by decide +kernel) (by decide),
  fun _ _ _ _ _ => WP_s (show ct 138 14 = some (.iload_n 1, 0, []) by decide +kernel) rfl,
  fun _ _ _ _ _ => WP_s (show ct 138 15 = some (.iconst 1, 0, []) by decide +kernel) rfl,
  fun _ _ _ _ _ _ _ => WI_ne (show ct 138 16 = some (.if_icmp .ne 7, 0, [23]) by decide +kernel) (by decide),
  fun _ _ _ _ _ => WP_s (show ct 138 19 = some (.iconst 1, 0, []) by decide +kernel) rfl,
  fun _ _ _ _ _ => WP_s (show ct 138 20 = some (.goto 4, 0, [24]) by decide +kernel) rfl,
  fun _ _ _ _ _ => WP_s (show ct 138 23 = some (.iconst 0, 0, []) by decide +kernel) rfl,
  fun _ _ _ _ _ hz => WR_z (show ct 138 24 = some (.ireturn, 2, [1]) by decide +kernel) hz⟩
/-! 139: FewBowls.toldForSmall(I)Z; loop heads [] -/
set_option maxRecDepth 10000 in
theorem w139 : (∀ (x0 : Nat) (x1 : Int32) (st : List Value) (h : AH) (Q : Option Value → AH → Prop), WP 139 0 [.ref x0, .int x1] (st) h Q ↔ WP 139 1 [.ref x0, .int x1] (.ref x0 :: st) h Q) ∧
  (∀ (x0 : Nat) (x1 : Int32) (y0 : Nat) (st : List Value) (h : AH) (Q : Option Value → AH → Prop) (ht : hT h y0 = 12), WP 139 1 [.ref x0, .int x1] (.ref y0 :: st) h Q ↔ WP 139 4 [.ref x0, .int x1] (.ref (hR h y0 2) :: st) h Q) ∧
  (∀ (x0 : Nat) (x1 : Int32) (y0 : Nat) (st : List Value) (h : AH) (Q : Option Value → AH → Prop) (ht : hT h y0 = 4), WP 139 4 [.ref x0, .int x1] (.ref y0 :: st) h Q ↔ WP 139 7 [.ref x0, .int x1] (.int (hI h y0 0) :: st) h Q) ∧
  (∀ (x0 : Nat) (x1 : Int32) (y0 : Int32) (st : List Value) (h : AH) (Q : Option Value → AH → Prop), WP 139 7 [.ref x0, .int x1] (.int y0 :: st) h Q ↔ ((y0 ≤ 0 → WP 139 37 [.ref x0, .int x1] (st) h Q) ∧ (¬ y0 ≤ 0 → WP 139 10 [.ref x0, .int x1] (st) h Q))) ∧
  (∀ (x0 : Nat) (x1 : Int32) (st : List Value) (h : AH) (Q : Option Value → AH → Prop), WP 139 10 [.ref x0, .int x1] (st) h Q ↔ WP 139 11 [.ref x0, .int x1] (.ref x0 :: st) h Q) ∧
  (∀ (x0 : Nat) (x1 : Int32) (y0 : Nat) (st : List Value) (h : AH) (Q : Option Value → AH → Prop) (ht : hT h y0 = 12), WP 139 11 [.ref x0, .int x1] (.ref y0 :: st) h Q ↔ WP 139 14 [.ref x0, .int x1] (.ref (hR h y0 2) :: st) h Q) ∧
  (∀ (x0 : Nat) (x1 : Int32) (y0 : Nat) (st : List Value) (h : AH) (Q : Option Value → AH → Prop) (ht : hT h y0 = 4), WP 139 14 [.ref x0, .int x1] (.ref y0 :: st) h Q ↔ WP 139 17 [.ref x0, .int x1] (.int (hI h y0 0) :: st) h Q) ∧
  (∀ (x0 : Nat) (x1 : Int32) (st : List Value) (h : AH) (Q : Option Value → AH → Prop), WP 139 17 [.ref x0, .int x1] (st) h Q ↔ WP 139 19 [.ref x0, .int x1] (.int (8) :: st) h Q) ∧
  (∀ (x0 : Nat) (x1 : Int32) (y0 : Int32) (y1 : Int32) (st : List Value) (h : AH) (Q : Option Value → AH → Prop), WP 139 19 [.ref x0, .int x1] (.int y0 :: .int y1 :: st) h Q ↔ ((y0 < y1 → WP 139 37 [.ref x0, .int x1] (st) h Q) ∧ (¬ y0 < y1 → WP 139 22 [.ref x0, .int x1] (st) h Q))) ∧
  (∀ (x0 : Nat) (x1 : Int32) (st : List Value) (h : AH) (Q : Option Value → AH → Prop), WP 139 22 [.ref x0, .int x1] (st) h Q ↔ WP 139 23 [.ref x0, .int x1] (.int x1 :: st) h Q) ∧
  (∀ (x0 : Nat) (x1 : Int32) (st : List Value) (h : AH) (Q : Option Value → AH → Prop), WP 139 23 [.ref x0, .int x1] (st) h Q ↔ WP 139 24 [.ref x0, .int x1] (.int (1) :: st) h Q) ∧
  (∀ (x0 : Nat) (x1 : Int32) (y0 : Int32) (y1 : Int32) (st : List Value) (h : AH) (Q : Option Value → AH → Prop), WP 139 24 [.ref x0, .int x1] (.int y0 :: .int y1 :: st) h Q ↔ ((y1 < y0 → WP 139 37 [.ref x0, .int x1] (st) h Q) ∧ (¬ y1 < y0 → WP 139 27 [.ref x0, .int x1] (st) h Q))) ∧
  (∀ (x0 : Nat) (x1 : Int32) (st : List Value) (h : AH) (Q : Option Value → AH → Prop), WP 139 27 [.ref x0, .int x1] (st) h Q ↔ WP 139 28 [.ref x0, .int x1] (.int x1 :: st) h Q) ∧
  (∀ (x0 : Nat) (x1 : Int32) (st : List Value) (h : AH) (Q : Option Value → AH → Prop), WP 139 28 [.ref x0, .int x1] (st) h Q ↔ WP 139 30 [.ref x0, .int x1] (.int (8) :: st) h Q) ∧
  (∀ (x0 : Nat) (x1 : Int32) (y0 : Int32) (y1 : Int32) (st : List Value) (h : AH) (Q : Option Value → AH → Prop), WP 139 30 [.ref x0, .int x1] (.int y0 :: .int y1 :: st) h Q ↔ ((y0 < y1 → WP 139 37 [.ref x0, .int x1] (st) h Q) ∧ (¬ y0 < y1 → WP 139 33 [.ref x0, .int x1] (st) h Q))) ∧
  (∀ (x0 : Nat) (x1 : Int32) (st : List Value) (h : AH) (Q : Option Value → AH → Prop), WP 139 33 [.ref x0, .int x1] (st) h Q ↔ WP 139 34 [.ref x0, .int x1] (.int (1) :: st) h Q) ∧
  (∀ (x0 : Nat) (x1 : Int32) (st : List Value) (h : AH) (Q : Option Value → AH → Prop), WP 139 34 [.ref x0, .int x1] (st) h Q ↔ WP 139 38 [.ref x0, .int x1] (st) h Q) ∧
  (∀ (x0 : Nat) (x1 : Int32) (st : List Value) (h : AH) (Q : Option Value → AH → Prop), WP 139 37 [.ref x0, .int x1] (st) h Q ↔ WP 139 38 [.ref x0, .int x1] (.int (0) :: st) h Q) ∧
  (∀ (x0 : Nat) (x1 : Int32) (y0 : Int32) (h : AH) (Q : Option Value → AH → Prop) (hz : y0 = 0 ∨ y0 = 1), WP 139 38 [.ref x0, .int x1] ([.int y0]) h Q ↔ Q (some (.int y0)) h) :=
  ⟨fun _ _ _ _ _ => WP_s (show ct 139 0 = some (.aload_n 0, 0, []) by decide +kernel) rfl,
  fun _ _ _ _ _ _ ht => WH_gR (show ct 139 1 = some (.getfield 16, 1, [11, 2, 2, 576]) by decide +kernel) ht,
  fun _ _ _ _ _ _ ht => WH_gI (show ct 139 4 = some (.getfield 104, 1, [3, 0, 0, 138]) by decide +kernel) (by decide) ht,
  fun _ _ _ _ _ _ => WZ_le (show ct 139 7 = some (.ifCond .le 30, 0, [37]) by decide +kernel) (by decide),
  fun _ _ _ _ _ => WP_s (show ct 139 10 = some (.aload_n 0, 0, []) by decide +kernel) rfl,
  fun _ _ _ _ _ _ ht => WH_gR (show ct 139 11 = some (.getfield 16, 1, [11, 2, 2, 576]) by decide +kernel) ht,
  fun _ _ _ _ _ _ ht => WH_gI (show ct 139 14 = some (.getfield 104, 1, [3, 0, 0, 138]) by decide +kernel) (by decide) ht,
  fun _ _ _ _ _ => WP_s (show ct 139 17 = some (.bipush 8, 0, []) by decide +kernel) rfl,
  fun _ _ _ _ _ _ _ => WI_gt (show ct 139 19 = some (.if_icmp .gt 18, 0, [37]) by decide +kernel) (by decide),
  fun _ _ _ _ _ => WP_s (show ct 139 22 = some (.iload_n 1, 0, []) by decide +kernel) rfl,
  fun _ _ _ _ _ => WP_s (show ct 139 23 = some (.iconst 1, 0, []) by decide +kernel) rfl,
  fun _ _ _ _ _ _ _ => WI_lt (show ct 139 24 = some (.if_icmp .lt 13, 0, [37]) by decide +kernel) (by decide),
  fun _ _ _ _ _ => WP_s (show ct 139 27 = some (.iload_n 1, 0, []) by decide +kernel) rfl,
  fun _ _ _ _ _ => WP_s (show ct 139 28 = some (.bipush 8, 0, []) by decide +kernel) rfl,
  fun _ _ _ _ _ _ _ => WI_gt (show ct 139 30 = some (.if_icmp .gt 7, 0, [37]) by decide +kernel) (by decide),
  fun _ _ _ _ _ => WP_s (show ct 139 33 = some (.iconst 1, 0, []) by decide +kernel) rfl,
  fun _ _ _ _ _ => WP_s (show ct 139 34 = some (.goto 4, 0, [38]) by decide +kernel) rfl,
  fun _ _ _ _ _ => WP_s (show ct 139 37 = some (.iconst 0, 0, []) by decide +kernel) rfl,
  fun _ _ _ _ _ hz => WR_z (show ct 139 38 = some (.ireturn, 2, [1]) by decide +kernel) hz⟩
/-! 140: FewBowls.bit(II)I; loop heads [] -/
set_option maxRecDepth 10000 in
theorem w140 : (∀ (x0 : Int32) (x1 : Int32) (st : List Value) (h : AH) (Q : Option Value → AH → Prop), WP 140 0 [.int x0, .int x1] (st) h Q ↔ WP 140 1 [.int x0, .int x1] (.int x0 :: st) h Q) ∧
  (∀ (x0 : Int32) (x1 : Int32) (st : List Value) (h : AH) (Q : Option Value → AH → Prop), WP 140 1 [.int x0, .int x1] (st) h Q ↔ WP 140 2 [.int x0, .int x1] (.int x1 :: st) h Q) ∧
  (∀ (x0 : Int32) (x1 : Int32) (y0 : Int32) (y1 : Int32) (st : List Value) (h : AH) (Q : Option Value → AH → Prop), WP 140 2 [.int x0, .int x1] (.int y0 :: .int y1 :: st) h Q ↔ WP 140 3 [.int x0, .int x1] (.int (y1 >>> (y0 &&& 31)) :: st) h Q) ∧
  (∀ (x0 : Int32) (x1 : Int32) (st : List Value) (h : AH) (Q : Option Value → AH → Prop), WP 140 3 [.int x0, .int x1] (st) h Q ↔ WP 140 4 [.int x0, .int x1] (.int (1) :: st) h Q) ∧
  (∀ (x0 : Int32) (x1 : Int32) (y0 : Int32) (y1 : Int32) (st : List Value) (h : AH) (Q : Option Value → AH → Prop), WP 140 4 [.int x0, .int x1] (.int y0 :: .int y1 :: st) h Q ↔ WP 140 5 [.int x0, .int x1] (.int (y1 &&& y0) :: st) h Q) ∧
  (∀ (x0 : Int32) (x1 : Int32) (y0 : Int32) (h : AH) (Q : Option Value → AH → Prop), WP 140 5 [.int x0, .int x1] ([.int y0]) h Q ↔ Q (some (.int y0)) h) :=
  ⟨fun _ _ _ _ _ => WP_s (show ct 140 0 = some (.iload_n 0, 0, []) by decide +kernel) rfl,
  fun _ _ _ _ _ => WP_s (show ct 140 1 = some (.iload_n 1, 0, []) by decide +kernel) rfl,
  fun _ _ _ _ _ _ _ => WP_s (show ct 140 2 = some (.ishr, 0, []) by decide +kernel) rfl,
  fun _ _ _ _ _ => WP_s (show ct 140 3 = some (.iconst 1, 0, []) by decide +kernel) rfl,
  fun _ _ _ _ _ _ _ => WP_s (show ct 140 4 = some (.iand, 0, []) by decide +kernel) rfl,
  fun _ _ _ _ _ => WR_i (show ct 140 5 = some (.ireturn, 2, [0]) by decide +kernel)⟩
/-! 141: FewBowls.holds(II)Z; loop heads [] -/
set_option maxRecDepth 10000 in
theorem w141 : (∀ (x0 : Int32) (x1 : Int32) (st : List Value) (h : AH) (Q : Option Value → AH → Prop), WP 141 0 [.int x0, .int x1] (st) h Q ↔ WP 141 1 [.int x0, .int x1] (.int x0 :: st) h Q) ∧
  (∀ (x0 : Int32) (x1 : Int32) (st : List Value) (h : AH) (Q : Option Value → AH → Prop), WP 141 1 [.int x0, .int x1] (st) h Q ↔ WP 141 2 [.int x0, .int x1] (.int x1 :: st) h Q) ∧
  (∀ (x0 : Int32) (x1 : Int32) (y0 : Int32) (y1 : Int32) (st : List Value) (h : AH) (Q : Option Value → AH → Prop), WP 141 2 [.int x0, .int x1] (.int y0 :: .int y1 :: st) h Q ↔ WP 141 3 [.int x0, .int x1] (.int (y1 &&& y0) :: st) h Q) ∧
  (∀ (x0 : Int32) (x1 : Int32) (st : List Value) (h : AH) (Q : Option Value → AH → Prop), WP 141 3 [.int x0, .int x1] (st) h Q ↔ WP 141 4 [.int x0, .int x1] (.int x1 :: st) h Q) ∧
  (∀ (x0 : Int32) (x1 : Int32) (y0 : Int32) (y1 : Int32) (st : List Value) (h : AH) (Q : Option Value → AH → Prop), WP 141 4 [.int x0, .int x1] (.int y0 :: .int y1 :: st) h Q ↔ ((¬ y1 = y0 → WP 141 11 [.int x0, .int x1] (st) h Q) ∧ (y1 = y0 → WP 141 7 [.int x0, .int x1] (st) h Q))) ∧
  (∀ (x0 : Int32) (x1 : Int32) (st : List Value) (h : AH) (Q : Option Value → AH → Prop), WP 141 7 [.int x0, .int x1] (st) h Q ↔ WP 141 8 [.int x0, .int x1] (.int (1) :: st) h Q) ∧
  (∀ (x0 : Int32) (x1 : Int32) (st : List Value) (h : AH) (Q : Option Value → AH → Prop), WP 141 8 [.int x0, .int x1] (st) h Q ↔ WP 141 12 [.int x0, .int x1] (st) h Q) ∧
  (∀ (x0 : Int32) (x1 : Int32) (st : List Value) (h : AH) (Q : Option Value → AH → Prop), WP 141 11 [.int x0, .int x1] (st) h Q ↔ WP 141 12 [.int x0, .int x1] (.int (0) :: st) h Q) ∧
  (∀ (x0 : Int32) (x1 : Int32) (y0 : Int32) (h : AH) (Q : Option Value → AH → Prop) (hz : y0 = 0 ∨ y0 = 1), WP 141 12 [.int x0, .int x1] ([.int y0]) h Q ↔ Q (some (.int y0)) h) :=
  ⟨fun _ _ _ _ _ => WP_s (show ct 141 0 = some (.iload_n 0, 0, []) by decide +kernel) rfl,
  fun _ _ _ _ _ => WP_s (show ct 141 1 = some (.iload_n 1, 0, []) by decide +kernel) rfl,
  fun _ _ _ _ _ _ _ => WP_s (show ct 141 2 = some (.iand, 0, []) by decide +kernel) rfl,
  fun _ _ _ _ _ => WP_s (show ct 141 3 = some (.iload_n 1, 0, []) by decide +kernel) rfl,
  fun _ _ _ _ _ _ _ => WI_ne (show ct 141 4 = some (.if_icmp .ne 7, 0, [11]) by decide +kernel) (by decide),
  fun _ _ _ _ _ => WP_s (show ct 141 7 = some (.iconst 1, 0, []) by decide +kernel) rfl,
  fun _ _ _ _ _ => WP_s (show ct 141 8 = some (.goto 4, 0, [12]) by decide +kernel) rfl,
  fun _ _ _ _ _ => WP_s (show ct 141 11 = some (.iconst 0, 0, []) by decide +kernel) rfl,
  fun _ _ _ _ _ hz => WR_z (show ct 141 12 = some (.ireturn, 2, [1]) by decide +kernel) hz⟩
/-! 142: FewBowls.isEnd(III)Z; loop heads [] -/
set_option maxRecDepth 10000 in
theorem w142 : (∀ (x0 : Int32) (x1 : Int32) (x2 : Int32) (st : List Value) (h : AH) (Q : Option Value → AH → Prop), WP 142 0 [.int x0, .int x1, .int x2] (st) h Q ↔ WP 142 1 [.int x0, .int x1, .int x2] (.int x2 :: st) h Q) ∧
  (∀ (x0 : Int32) (x1 : Int32) (x2 : Int32) (st : List Value) (h : AH) (Q : Option Value → AH → Prop), WP 142 1 [.int x0, .int x1, .int x2] (st) h Q ↔ WP 142 2 [.int x0, .int x1, .int x2] (.int (4) :: st) h Q) ∧
  (∀ (x0 : Int32) (x1 : Int32) (x2 : Int32) (y0 : Int32) (y1 : Int32) (st : List Value) (h : AH) (Q : Option Value → AH → Prop), WP 142 2 [.int x0, .int x1, .int x2] (.int y0 :: .int y1 :: st) h Q ↔ WP 142 3 [.int x0, .int x1, .int x2] (.int (y1 &&& y0) :: st) h Q) ∧
  (∀ (x0 : Int32) (x1 : Int32) (x2 : Int32) (y0 : Int32) (st : List Value) (h : AH) (Q : Option Value → AH → Prop), WP 142 3 [.int x0, .int x1, .int x2] (.int y0 :: st) h Q ↔ ((y0 = 0 → WP 142 19 [.int x0, .int x1, .int x2] (st) h Q) ∧ (¬ y0 = 0 → WP 142 6 [.int x0, .int x1, .int x2] (st) h Q))) ∧
  (∀ (x0 : Int32) (x1 : Int32) (x2 : Int32) (st : List Value) (h : AH) (Q : Option Value → AH → Prop), WP 142 6 [.int x0, .int x1, .int x2] (st) h Q ↔ WP 142 7 [.int x0, .int x1, .int x2] (.int x0 :: st) h Q) ∧
  (∀ (x0 : Int32) (x1 : Int32) (x2 : Int32) (st : List Value) (h : AH) (Q : Option Value → AH → Prop), WP 142 7 [.int x0, .int x1, .int x2] (st) h Q ↔ WP 142 8 [.int x0, .int x1, .int x2] (.int x1 :: st) h Q) ∧
  (∀ (x0 : Int32) (x1 : Int32) (x2 : Int32) (y0 : Int32) (y1 : Int32) (st : List Value) (h : AH) (Q : Option Value → AH → Prop), WP 142 8 [.int x0, .int x1, .int x2] (.int y0 :: .int y1 :: st) h Q ↔ ((¬ y1 = y0 → WP 142 15 [.int x0, .int x1, .int x2] (st) h Q) ∧ (y1 = y0 → WP 142 11 [.int x0, .int x1, .int x2] (st) h Q))) ∧
  (∀ (x0 : Int32) (x1 : Int32) (x2 : Int32) (st : List Value) (h : AH) (Q : Option Value → AH → Prop), WP 142 11 [.int x0, .int x1, .int x2] (st) h Q ↔ WP 142 12 [.int x0, .int x1, .int x2] (.int (1) :: st) h Q) ∧
  (∀ (x0 : Int32) (x1 : Int32) (x2 : Int32) (st : List Value) (h : AH) (Q : Option Value → AH → Prop), WP 142 12 [.int x0, .int x1, .int x2] (st) h Q ↔ WP 142 24 [.int x0, .int x1, .int x2] (st) h Q) ∧
  (∀ (x0 : Int32) (x1 : Int32) (x2 : Int32) (st : List Value) (h : AH) (Q : Option Value → AH → Prop), WP 142 15 [.int x0, .int x1, .int x2] (st) h Q ↔ WP 142 16 [.int x0, .int x1, .int x2] (.int (0) :: st) h Q) ∧
  (∀ (x0 : Int32) (x1 : Int32) (x2 : Int32) (st : List Value) (h : AH) (Q : Option Value → AH → Prop), WP 142 16 [.int x0, .int x1, .int x2] (st) h Q ↔ WP 142 24 [.int x0, .int x1, .int x2] (st) h Q) ∧
  (∀ (x0 : Int32) (x1 : Int32) (x2 : Int32) (st : List Value) (h : AH) (Q : Option Value → AH → Prop), WP 142 19 [.int x0, .int x1, .int x2] (st) h Q ↔ WP 142 20 [.int x0, .int x1, .int x2] (.int x0 :: st) h Q) ∧
  (∀ (x0 : Int32) (x1 : Int32) (x2 : Int32) (st : List Value) (h : AH) (Q : Option Value → AH → Prop), WP 142 20 [.int x0, .int x1, .int x2] (st) h Q ↔ WP 142 21 [.int x0, .int x1, .int x2] (.int x1 :: st) h Q) ∧
  (∀ (x0 : Int32) (x1 : Int32) (x2 : Int32) (y1 : Int32) (y0 : Int32) (h : AH) (Q : Option Value → AH → Prop), WP 142 21 [.int x0, .int x1, .int x2] ([.int y0, .int y1]) h Q ↔ WPM 141 [.int y1, .int y0] h (fun r h' => WP 142 24 [.int x0, .int x1, .int x2] (r.toList ++ []) h' Q)) ∧
  (∀ (x0 : Int32) (x1 : Int32) (x2 : Int32) (y0 : Int32) (h : AH) (Q : Option Value → AH → Prop) (hz : y0 = 0 ∨ y0 = 1), WP 142 24 [.int x0, .int x1, .int x2] ([.int y0]) h Q ↔ Q (some (.int y0)) h) :=
  ⟨fun _ _ _ _ _ _ => WP_s (show ct 142 0 = some (.iload_n 2, 0, []) by decide +kernel) rfl,
  fun _ _ _ _ _ _ => WP_s (show ct 142 1 = some (.iconst 4, 0, []) by decide +kernel) rfl,
  fun _ _ _ _ _ _ _ _ => WP_s (show ct 142 2 = some (.iand, 0, []) by decide +kernel) rfl,
  fun _ _ _ _ _ _ _ => WZ_eq (show ct 142 3 = some (.ifCond .eq 16, 0, [19]) by decide +kernel) (by decide),
  fun _ _ _ _ _ _ => WP_s (show ct 142 6 = some (.iload_n 0, 0, []) by decide +kernel) rfl,
  fun _ _ _ _ _ _ => WP_s (show ct 142 7 = some (.iload_n 1, 0, []) by decide +kernel) rfl,
  fun _ _ _ _ _ _ _ _ => WI_ne (show ct 142 8 = some (.if_icmp .ne 7, 0, [15]) by decide +kernel) (by decide),
  fun _ _ _ _ _ _ => WP_s (show ct 142 11 = some (.iconst 1, 0, []) by decide +kernel) rfl,
  fun _ _ _ _ _ _ => WP_s (show ct 142 12 = some (.goto 12, 0, [24]) by decide +kernel) rfl,
  fun _ _ _ _ _ _ => WP_s (show ct 142 15 = some (.iconst 0, 0, []) by decide +kernel) rfl,
  fun _ _ _ _ _ _ => WP_s (show ct 142 16 = some (.goto 8, 0, [24]) by decide +kernel) rfl,
  fun _ _ _ _ _ _ => WP_s (show ct 142 19 = some (.iload_n 0, 0, []) by decide +kernel) rfl,
  fun _ _ _ _ _ _ => WP_s (show ct 142 20 = some (.iload_n 1, 0, []) by decide +kernel) rfl,
  fun _ _ _ _ _ _ _ => WC_0 (show ct 142 21 = some (.invokestatic 262, 3, [141, 2, 0, 0, 0, 833, 834, 0]) by decide +kernel) (Nat.le_of_ble_eq_true rfl) (Nat.le_of_ble_eq_true rfl) rfl rfl,
  fun _ _ _ _ _ _ hz => WR_z (show ct 142 24 = some (.ireturn, 2, [1]) by decide +kernel) hz⟩

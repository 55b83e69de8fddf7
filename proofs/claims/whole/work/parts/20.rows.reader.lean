/-! 62: FewBowls$Reader.<init>()V; loop heads [] -/
set_option maxRecDepth 10000 in
theorem w62 : (∀ (x0 : Nat) (st : List Value) (h : AH) (Q : Option Value → AH → Prop), WP 62 0 [.ref x0] (st) h Q ↔ WP 62 1 [.ref x0] (.ref x0 :: st) h Q) ∧
  (∀ (x0 : Nat) (y0 : Nat) (h : AH) (Q : Option Value → AH → Prop) (h0 : y0 ≠ 0), WP 62 1 [.ref x0] ([.ref y0]) h Q ↔ WP 62 4 [.ref x0] ([]) h Q) ∧
  (∀ (x0 : Nat) (st : List Value) (h : AH) (Q : Option Value → AH → Prop), WP 62 4 [.ref x0] (st) h Q ↔ WP 62 5 [.ref x0] (.ref x0 :: st) h Q) ∧
  (∀ (x0 : Nat) (st : List Value) (h : AH) (Q : Option Value → AH → Prop), WP 62 5 [.ref x0] (st) h Q ↔ WP 62 8 [.ref x0] (.ref (hN h) :: st) (nw h 11 0 7) Q) ∧
  (∀ (x0 : Nat) (y0 : Nat) (st : List Value) (h : AH) (Q : Option Value → AH → Prop), WP 62 8 [.ref x0] (.ref y0 :: st) h Q ↔ WP 62 9 [.ref x0] (.ref y0 :: .ref y0 :: st) h Q) ∧
  (∀ (x0 : Nat) (y2 : Nat) (y1 : Nat) (y0 : Nat) (h : AH) (Q : Option Value → AH → Prop) (ht : y0 ≠ 0), WP 62 9 [.ref x0] ([.ref y0, .ref y1, .ref y2]) h Q ↔ WPM 92 [.ref y0] h (fun r h' => WP 62 12 [.ref x0] (r.toList ++ [.ref y1, .ref y2]) h' Q)) ∧
  (∀ (x0 : Nat) (y0 : Nat) (y1 : Nat) (st : List Value) (h : AH) (Q : Option Value → AH → Prop) (ht : hT h y1 = 8), WP 62 12 [.ref x0] (.ref y0 :: .ref y1 :: st) h Q ↔ WP 62 15 [.ref x0] (st) (sR h y1 0 y0) Q) ∧
  (∀ (x0 : Nat) (st : List Value) (h : AH) (Q : Option Value → AH → Prop), WP 62 15 [.ref x0] (st) h Q ↔ WP 62 16 [.ref x0] (.ref x0 :: st) h Q) ∧
  (∀ (x0 : Nat) (st : List Value) (h : AH) (Q : Option Value → AH → Prop), WP 62 16 [.ref x0] (st) h Q ↔ WP 62 18 [.ref x0] (.int (60) :: st) h Q) ∧
  (∀ (x0 : Nat) (y0 : Int32) (st : List Value) (h : AH) (Q : Option Value → AH → Prop) (h0 : 0 ≤ y0) (h1 : y0.toNatClampNeg ≤ 1048576), WP 62 18 [.ref x0] (.int y0 :: st) h Q ↔ WP 62 20 [.ref x0] (.ref (hN h) :: st) (nw h 100 y0.toNatClampNeg y0.toNatClampNeg) Q) ∧
  (∀ (x0 : Nat) (y0 : Nat) (y1 : Nat) (st : List Value) (h : AH) (Q : Option Value → AH → Prop) (ht : hT h y1 = 8), WP 62 20 [.ref x0] (.ref y0 :: .ref y1 :: st) h Q ↔ WP 62 23 [.ref x0] (st) (sR h y1 1 y0) Q) ∧
  (∀ (x0 : Nat) (h : AH) (Q : Option Value → AH → Prop), WP 62 23 [.ref x0] ([]) h Q ↔ Q none h) :=
  ⟨fun _ _ _ _ => WP_s (show ct 62 0 = some (.aload_n 0, 0, []) by decide +kernel) rfl,
  fun _ _ _ _ h0 => WH_obj (show ct 62 1 = some (.invokespecial 3, 1, [215, 124, 125]) by decide +kernel) h0 (Nat.le_of_ble_eq_true rfl),
  fun _ _ _ _ => WP_s (show ct 62 4 = some (.aload_n 0, 0, []) by decide +kernel) rfl,
  fun _ _ _ _ => WH_new (show ct 62 5 = some (.new 9, 1, [10, 7, 216, 217, 98]) by decide +kernel),
  fun _ _ _ _ _ => WP_s (show ct 62 8 = some (.dup, 0, []) by decide +kernel) rfl,
  fun _ _ _ _ _ _ ht => WC_2 (show ct 62 9 = some (.invokespecial 11, 3, [92, 1, 2, 0, 1, 218, 219, 0]) by decide +kernel) (Nat.le_of_ble_eq_true rfl) (Nat.le_of_ble_eq_true rfl) rfl rfl ht,
  fun _ _ _ _ _ _ ht => WH_pR (show ct 62 12 = some (.putfield 12, 1, [7, 0, 2, 1, 305]) by decide +kernel) ht,
  fun _ _ _ _ => WP_s (show ct 62 15 = some (.aload_n 0, 0, []) by decide +kernel) rfl,
  fun _ _ _ _ => WP_s (show ct 62 16 = some (.bipush 60, 0, []) by decide +kernel) rfl,
  fun _ _ _ _ _ h0 h1 => WH_newa (show ct 62 18 = some (.newarray .int, 1, [100, 209]) by decide +kernel) (by decide) h0 h1,
  fun _ _ _ _ _ _ ht => WH_pR (show ct 62 20 = some (.putfield 18, 1, [7, 1, 2, 1, 306]) by decide +kernel) ht,
  fun _ _ _ => WR_v (show ct 62 23 = some (.return_, 2, [0]) by decide +kernel)⟩
/-! 63: FewBowls$Reader.fail(I)Z; loop heads [] -/
set_option maxRecDepth 10000 in
theorem w63 : (∀ (x0 : Nat) (x1 : Int32) (st : List Value) (h : AH) (Q : Option Value → AH → Prop), WP 63 0 [.ref x0, .int x1] (st) h Q ↔ WP 63 1 [.ref x0, .int x1] (.ref x0 :: st) h Q) ∧
  (∀ (x0 : Nat) (x1 : Int32) (st : List Value) (h : AH) (Q : Option Value → AH → Prop), WP 63 1 [.ref x0, .int x1] (st) h Q ↔ WP 63 2 [.ref x0, .int x1] (.int x1 :: st) h Q) ∧
  (∀ (x0 : Nat) (x1 : Int32) (y0 : Int32) (y1 : Nat) (st : List Value) (h : AH) (Q : Option Value → AH → Prop) (ht : hT h y1 = 8), WP 63 2 [.ref x0, .int x1] (.int y0 :: .ref y1 :: st) h Q ↔ WP 63 5 [.ref x0, .int x1] (st) (sI h y1 3 y0) Q) ∧
  (∀ (x0 : Nat) (x1 : Int32) (st : List Value) (h : AH) (Q : Option Value → AH → Prop), WP 63 5 [.ref x0, .int x1] (st) h Q ↔ WP 63 6 [.ref x0, .int x1] (.ref x0 :: st) h Q) ∧
  (∀ (x0 : Nat) (x1 : Int32) (st : List Value) (h : AH) (Q : Option Value → AH → Prop), WP 63 6 [.ref x0, .int x1] (st) h Q ↔ WP 63 7 [.ref x0, .int x1] (.ref x0 :: st) h Q) ∧
  (∀ (x0 : Nat) (x1 : Int32) (y0 : Nat) (st : List Value) (h : AH) (Q : Option Value → AH → Prop) (ht : hT h y0 = 8), WP 63 7 [.ref x0, .int x1] (.ref y0 :: st) h Q ↔ WP 63 10 [.ref x0, .int x1] (.ref (hR h y0 0) :: st) h Q) ∧
  (∀ (x0 : Nat) (x1 : Int32) (y0 : Nat) (st : List Value) (h : AH) (Q : Option Value → AH → Prop) (ht : hT h y0 = 11), WP 63 10 [.ref x0, .int x1] (.ref y0 :: st) h Q ↔ WP 63 13 [.ref x0, .int x1] (.int (hI h y0 5) :: st) h Q) ∧
  (∀ (x0 : Nat) (x1 : Int32) (y0 : Int32) (y1 : Nat) (st : List Value) (h : AH) (Q : Option Value → AH → Prop) (ht : hT h y1 = 8), WP 63 13 [.ref x0, .int x1] (.int y0 :: .ref y1 :: st) h Q ↔ WP 63 16 [.ref x0, .int x1] (st) (sI h y1 4 y0) Q) ∧
  (∀ (x0 : Nat) (x1 : Int32) (st : List Value) (h : AH) (Q : Option Value → AH → Prop), WP 63 16 [.ref x0, .int x1] (st) h Q ↔ WP 63 17 [.ref x0, .int x1] (.int (0) :: st) h Q) ∧
  (∀ (x0 : Nat) (x1 : Int32) (y0 : Int32) (h : AH) (Q : Option Value → AH → Prop) (hz : y0 = 0 ∨ y0 = 1), WP 63 17 [.ref x0, .int x1] ([.int y0]) h Q ↔ Q (some (.int y0)) h) :=
  ⟨fun _ _ _ _ _ => WP_s (show ct 63 0 = some (.aload_n 0, 0, []) by decide +kernel) rfl,
  fun _ _ _ _ _ => WP_s (show ct 63 1 = some (.iload_n 1, 0, []) by decide +kernel) rfl,
  fun _ _ _ _ _ _ _ ht => WH_pI (show ct 63 2 = some (.putfield 22, 1, [7, 3, 0, 0, 310]) by decide +kernel) ht,
  fun _ _ _ _ _ => WP_s (show ct 63 5 = some (.aload_n 0, 0, []) by decide +kernel) rfl,
  fun _ _ _ _ _ => WP_s (show ct 63 6 = some (.aload_n 0, 0, []) by decide +kernel) rfl,
  fun _ _ _ _ _ _ ht => WH_gR (show ct 63 7 = some (.getfield 12, 1, [7, 0, 2, 305]) by decide +kernel) ht,
  fun _ _ _ _ _ _ ht => WH_gI (show ct 63 10 = some (.getfield 26, 1, [10, 5, 0, 286]) by decide +kernel) (by decide) ht,
  fun _ _ _ _ _ _ _ ht => WH_pI (show ct 63 13 = some (.putfield 29, 1, [7, 4, 0, 0, 312]) by decide +kernel) ht,
  fun _ _ _ _ _ => WP_s (show ct 63 16 = some (.iconst 0, 0, []) by decide +kernel) rfl,
  fun _ _ _ _ _ hz => WR_z (show ct 63 17 = some (.ireturn, 2, [1]) by decide +kernel) hz⟩
/-! 64: FewBowls$Reader.refuse(I)I; loop heads [] -/
set_option maxRecDepth 10000 in
theorem w64 : (∀ (x0 : Nat) (x1 : Int32) (st : List Value) (h : AH) (Q : Option Value → AH → Prop), WP 64 0 [.ref x0, .int x1] (st) h Q ↔ WP 64 1 [.ref x0, .int x1] (.ref x0 :: st) h Q) ∧
  (∀ (x0 : Nat) (x1 : Int32) (st : List Value) (h : AH) (Q : Option Value → AH → Prop), WP 64 1 [.ref x0, .int x1] (st) h Q ↔ WP 64 2 [.ref x0, .int x1] (.int x1 :: st) h Q) ∧
  (∀ (x0 : Nat) (x1 : Int32) (y1 : Nat) (y0 : Int32) (h : AH) (Q : Option Value → AH → Prop) (ht : hT h y1 = 8), WP 64 2 [.ref x0, .int x1] ([.int y0, .ref y1]) h Q ↔ WPM 63 [.ref y1, .int y0] h (fun r h' => WP 64 5 [.ref x0, .int x1] (r.toList ++ []) h' Q)) ∧
  (∀ (x0 : Nat) (x1 : Int32) (y0 : Int32) (st : List Value) (h : AH) (Q : Option Value → AH → Prop), WP 64 5 [.ref x0, .int x1] (.int y0 :: st) h Q ↔ WP 64 6 [.ref x0, .int x1] (st) h Q) ∧
  (∀ (x0 : Nat) (x1 : Int32) (st : List Value) (h : AH) (Q : Option Value → AH → Prop), WP 64 6 [.ref x0, .int x1] (st) h Q ↔ WP 64 7 [.ref x0, .int x1] (.int (-1) :: st) h Q) ∧
  (∀ (x0 : Nat) (x1 : Int32) (y0 : Int32) (h : AH) (Q : Option Value → AH → Prop), WP 64 7 [.ref x0, .int x1] ([.int y0]) h Q ↔ Q (some (.int y0)) h) :=
  ⟨fun _ _ _ _ _ => WP_s (show ct 64 0 = some (.aload_n 0, 0, []) by decide +kernel) rfl,
  fun _ _ _ _ _ => WP_s (show ct 64 1 = some (.iload_n 1, 0, []) by decide +kernel) rfl,
  fun _ _ _ _ _ _ ht => WC_1 (show ct 64 2 = some (.invokevirtual 30, 3, [63, 2, 1, 8, 0, 680, 682, 7]) by decide +kernel) (Nat.le_of_ble_eq_true rfl) (Nat.le_of_ble_eq_true rfl) rfl rfl ht,
  fun _ _ _ _ _ _ => WP_s (show ct 64 5 = some (.pop, 0, []) by decide +kernel) rfl,
  fun _ _ _ _ _ => WP_s (show ct 64 6 = some (.iconst (-1), 0, []) by decide +kernel) rfl,
  fun _ _ _ _ _ => WR_i (show ct 64 7 = some (.ireturn, 2, [0]) by decide +kernel)⟩
/-! 65: FewBowls$Reader.begin([BI)V; loop heads [] -/
set_option maxRecDepth 10000 in
theorem w65 : (∀ (x0 : Nat) (x1 : Nat) (x2 : Int32) (st : List Value) (h : AH) (Q : Option Value → AH → Prop), WP 65 0 [.ref x0, .ref x1, .int x2] (st) h Q ↔ WP 65 1 [.ref x0, .ref x1, .int x2] (.ref x0 :: st) h Q) ∧
  (∀ (x0 : Nat) (x1 : Nat) (x2 : Int32) (st : List Value) (h : AH) (Q : Option Value → AH → Prop), WP 65 1 [.ref x0, .ref x1, .int x2] (st) h Q ↔ WP 65 2 [.ref x0, .ref x1, .int x2] (.int (0) :: st) h Q) ∧
  (∀ (x0 : Nat) (x1 : Nat) (x2 : Int32) (y0 : Int32) (y1 : Nat) (st : List Value) (h : AH) (Q : Option Value → AH → Prop) (ht : hT h y1 = 8), WP 65 2 [.ref x0, .ref x1, .int x2] (.int y0 :: .ref y1 :: st) h Q ↔ WP 65 5 [.ref x0, .ref x1, .int x2] (st) (sI h y1 3 y0) Q) ∧
  (∀ (x0 : Nat) (x1 : Nat) (x2 : Int32) (st : List Value) (h : AH) (Q : Option Value → AH → Prop), WP 65 5 [.ref x0, .ref x1, .int x2] (st) h Q ↔ WP 65 6 [.ref x0, .ref x1, .int x2] (.ref x0 :: st) h Q) ∧
  (∀ (x0 : Nat) (x1 : Nat) (x2 : Int32) (st : List Value) (h : AH) (Q : Option Value → AH → Prop), WP 65 6 [.ref x0, .ref x1, .int x2] (st) h Q ↔ WP 65 7 [.ref x0, .ref x1, .int x2] (.int (0) :: st) h Q) ∧
  (∀ (x0 : Nat) (x1 : Nat) (x2 : Int32) (y0 : Int32) (y1 : Nat) (st : List Value) (h : AH) (Q : Option Value → AH → Prop) (ht : hT h y1 = 8), WP 65 7 [.ref x0, .ref x1, .int x2] (.int y0 :: .ref y1 :: st) h Q ↔ WP 65 10 [.ref x0, .ref x1, .int x2] (st) (sI h y1 4 y0) Q) ∧
  (∀ (x0 : Nat) (x1 : Nat) (x2 : Int32) (st : List Value) (h : AH) (Q : Option Value → AH → Prop), WP 65 10 [.ref x0, .ref x1, .int x2] (st) h Q ↔ WP 65 11 [.ref x0, .ref x1, .int x2] (.ref x0 :: st) h Q) ∧
  (∀ (x0 : Nat) (x1 : Nat) (x2 : Int32) (y0 : Nat) (st : List Value) (h : AH) (Q : Option Value → AH → Prop) (ht : hT h y0 = 8), WP 65 11 [.ref x0, .ref x1, .int x2] (.ref y0 :: st) h Q ↔ WP 65 14 [.ref x0, .ref x1, .int x2] (.ref (hR h y0 0) :: st) h Q) ∧
  (∀ (x0 : Nat) (x1 : Nat) (x2 : Int32) (st : List Value) (h : AH) (Q : Option Value → AH → Prop), WP 65 14 [.ref x0, .ref x1, .int x2] (st) h Q ↔ WP 65 15 [.ref x0, .ref x1, .int x2] (.ref x1 :: st) h Q) ∧
  (∀ (x0 : Nat) (x1 : Nat) (x2 : Int32) (st : List Value) (h : AH) (Q : Option Value → AH → Prop), WP 65 15 [.ref x0, .ref x1, .int x2] (st) h Q ↔ WP 65 16 [.ref x0, .ref x1, .int x2] (.int x2 :: st) h Q) ∧
  (∀ (x0 : Nat) (x1 : Nat) (x2 : Int32) (y2 : Nat) (y1 : Nat) (y0 : Int32) (h : AH) (Q : Option Value → AH → Prop) (ht : hT h y2 = 11), WP 65 16 [.ref x0, .ref x1, .int x2] ([.int y0, .ref y1, .ref y2]) h Q ↔ WPM 93 [.ref y2, .ref y1, .int y0] h (fun r h' => WP 65 19 [.ref x0, .ref x1, .int x2] (r.toList ++ []) h' Q)) ∧
  (∀ (x0 : Nat) (x1 : Nat) (x2 : Int32) (h : AH) (Q : Option Value → AH → Prop), WP 65 19 [.ref x0, .ref x1, .int x2] ([]) h Q ↔ Q none h) :=
  ⟨fun _ _ _ _ _ _ => WP_s (show ct 65 0 = some (.aload_n 0, 0, []) by decide +kernel) rfl,
  fun _ _ _ _ _ _ => WP_s (show ct 65 1 = some (.iconst 0, 0, []) by decide +kernel) rfl,
  fun _ _ _ _ _ _ _ _ ht => WH_pI (show ct 65 2 = some (.putfield 22, 1, [7, 3, 0, 0, 310]) by decide +kernel) ht,
  fun _ _ _ _ _ _ => WP_s (show ct 65 5 = some (.aload_n 0, 0, []) by decide +kernel) rfl,
  fun _ _ _ _ _ _ => WP_s (show ct 65 6 = some (.iconst 0, 0, []) by decide +kernel) rfl,
  fun _ _ _ _ _ _ _ _ ht => WH_pI (show ct 65 7 = some (.putfield 29, 1, [7, 4, 0, 0, 312]) by decide +kernel) ht,
  fun _ _ _ _ _ _ => WP_s (show ct 65 10 = some (.aload_n 0, 0, []) by decide +kernel) rfl,
  fun _ _ _ _ _ _ _ ht => WH_gR (show ct 65 11 = some (.getfield 12, 1, [7, 0, 2, 305]) by decide +kernel) ht,
  fun _ _ _ _ _ _ => WP_s (show ct 65 14 = some (.aload_n 1, 0, []) by decide +kernel) rfl,
  fun _ _ _ _ _ _ => WP_s (show ct 65 15 = some (.iload_n 2, 0, []) by decide +kernel) rfl,
  fun _ _ _ _ _ _ _ _ ht => WC_1 (show ct 65 16 = some (.invokevirtual 34, 3, [93, 3, 1, 11, 0, 636, 637, 638]) by decide +kernel) (Nat.le_of_ble_eq_true rfl) (Nat.le_of_ble_eq_true rfl) rfl rfl ht,
  fun _ _ _ _ _ => WR_v (show ct 65 19 = some (.return_, 2, [0]) by decide +kernel)⟩
/-! 66: FewBowls$Reader.readNet([BILFewBowls$Net;)Z; loop heads [13] -/
theorem w66_13 : ∀ (x0 : Nat) (x1 : Nat) (x2 : Int32) (x3 : Nat) (x4 : Int32) (st : List Value) (h : AH) (Q : Option Value → AH → Prop), WP 66 13 [.ref x0, .ref x1, .int x2, .ref x3, .int x4] (st) h Q ↔ WP 66 15 [.ref x0, .ref x1, .int x2, .ref x3, .int x4] (.int x4 :: st) h Q := fun _ _ _ _ _ _ _ _ => WP_s (show ct 66 13 = some (.iload 4, 0, []) by decide +kernel) rfl
set_option maxRecDepth 10000 in
theorem w66_a : (∀ (x0 : Nat) (x1 : Nat) (x2 : Int32) (x3 : Nat) (st : List Value) (h : AH) (Q : Option Value → AH → Prop), WP 66 0 [.ref x0, .ref x1, .int x2, .ref x3, .retAddr 0] (st) h Q ↔ WP 66 1 [.ref x0, .ref x1, .int x2, .ref x3, .retAddr 0] (.ref x0 :: st) h Q) ∧
  (∀ (x0 : Nat) (x1 : Nat) (x2 : Int32) (x3 : Nat) (st : List Value) (h : AH) (Q : Option Value → AH → Prop), WP 66 1 [.ref x0, .ref x1, .int x2, .ref x3, .retAddr 0] (st) h Q ↔ WP 66 2 [.ref x0, .ref x1, .int x2, .ref x3, .retAddr 0] (.ref x1 :: st) h Q) ∧
  (∀ (x0 : Nat) (x1 : Nat) (x2 : Int32) (x3 : Nat) (st : List Value) (h : AH) (Q : Option Value → AH → Prop), WP 66 2 [.ref x0, .ref x1, .int x2, .ref x3, .retAddr 0] (st) h Q ↔ WP 66 3 [.ref x0, .ref x1, .int x2, .ref x3, .retAddr 0] (.int x2 :: st) h Q) ∧
  (∀ (x0 : Nat) (x1 : Nat) (x2 : Int32) (x3 : Nat) (y2 : Nat) (y1 : Nat) (y0 : Int32) (h : AH) (Q : Option Value → AH → Prop) (ht : hT h y2 = 8), WP 66 3 [.ref x0, .ref x1, .int x2, .ref x3, .retAddr 0] ([.int y0, .ref y1, .ref y2]) h Q ↔ WPM 65 [.ref y2, .ref y1, .int y0] h (fun r h' => WP 66 6 [.ref x0, .ref x1, .int x2, .ref x3, .retAddr 0] (r.toList ++ []) h' Q)) ∧
  (∀ (x0 : Nat) (x1 : Nat) (x2 : Int32) (x3 : Nat) (st : List Value) (h : AH) (Q : Option Value → AH → Prop), WP 66 6 [.ref x0, .ref x1, .int x2, .ref x3, .retAddr 0] (st) h Q ↔ WP 66 7 [.ref x0, .ref x1, .int x2, .ref x3, .retAddr 0] (.ref x3 :: st) h Q) ∧
  (∀ (x0 : Nat) (x1 : Nat) (x2 : Int32) (x3 : Nat) (y0 : Nat) (h : AH) (Q : Option Value → AH → Prop) (ht : hT h y0 = 4), WP 66 7 [.ref x0, .ref x1, .int x2, .ref x3, .retAddr 0] ([.ref y0]) h Q ↔ WPM 23 [.ref y0] h (fun r h' => WP 66 10 [.ref x0, .ref x1, .int x2, .ref x3, .retAddr 0] (r.toList ++ []) h' Q)) ∧
  (∀ (x0 : Nat) (x1 : Nat) (x2 : Int32) (x3 : Nat) (st : List Value) (h : AH) (Q : Option Value → AH → Prop), WP 66 10 [.ref x0, .ref x1, .int x2, .ref x3, .retAddr 0] (st) h Q ↔ WP 66 11 [.ref x0, .ref x1, .int x2, .ref x3, .retAddr 0] (.int (0) :: st) h Q) ∧
  (∀ (x0 : Nat) (x1 : Nat) (x2 : Int32) (x3 : Nat) (y0 : Int32) (st : List Value) (h : AH) (Q : Option Value → AH → Prop), WP 66 11 [.ref x0, .ref x1, .int x2, .ref x3, .retAddr 0] (.int y0 :: st) h Q ↔ WP 66 13 [.ref x0, .ref x1, .int x2, .ref x3, .int y0] (st) h Q) ∧
  (∀ (x0 : Nat) (x1 : Nat) (x2 : Int32) (x3 : Nat) (x4 : Int32) (st : List Value) (h : AH) (Q : Option Value → AH → Prop), WP 66 15 [.ref x0, .ref x1, .int x2, .ref x3, .int x4] (st) h Q ↔ WP 66 18 [.ref x0, .ref x1, .int x2, .ref x3, .int x4] (.int (500) :: st) h Q) ∧
  (∀ (x0 : Nat) (x1 : Nat) (x2 : Int32) (x3 : Nat) (x4 : Int32) (y0 : Int32) (y1 : Int32) (st : List Value) (h : AH) (Q : Option Value → AH → Prop), WP 66 18 [.ref x0, .ref x1, .int x2, .ref x3, .int x4] (.int y0 :: .int y1 :: st) h Q ↔ ((y0 < y1 → WP 66 86 [.ref x0, .ref x1, .int x2, .ref x3, .int x4] (st) h Q) ∧ (¬ y0 < y1 → WP 66 21 [.ref x0, .ref x1, .int x2, .ref x3, .int x4] (st) h Q))) ∧
  (∀ (x0 : Nat) (x1 : Nat) (x2 : Int32) (x3 : Nat) (x4 : Int32) (st : List Value) (h : AH) (Q : Option Value → AH → Prop), WP 66 21 [.ref x0, .ref x1, .int x2, .ref x3, .int x4] (st) h Q ↔ WP 66 22 [.ref x0, .ref x1, .int x2, .ref x3, .int x4] (.ref x0 :: st) h Q) ∧
  (∀ (x0 : Nat) (x1 : Nat) (x2 : Int32) (x3 : Nat) (x4 : Int32) (y0 : Nat) (st : List Value) (h : AH) (Q : Option Value → AH → Prop) (ht : hT h y0 = 8), WP 66 22 [.ref x0, .ref x1, .int x2, .ref x3, .int x4] (.ref y0 :: st) h Q ↔ WP 66 25 [.ref x0, .ref x1, .int x2, .ref x3, .int x4] (.ref (hR h y0 0) :: st) h Q) ∧
  (∀ (x0 : Nat) (x1 : Nat) (x2 : Int32) (x3 : Nat) (x4 : Int32) (y0 : Nat) (h : AH) (Q : Option Value → AH → Prop) (ht : hT h y0 = 11), WP 66 25 [.ref x0, .ref x1, .int x2, .ref x3, .int x4] ([.ref y0]) h Q ↔ WPM 95 [.ref y0] h (fun r h' => WP 66 28 [.ref x0, .ref x1, .int x2, .ref x3, .int x4] (r.toList ++ []) h' Q)) ∧
  (∀ (x0 : Nat) (x1 : Nat) (x2 : Int32) (x3 : Nat) (x4 : Int32) (st : List Value) (h : AH) (Q : Option Value → AH → Prop), WP 66 28 [.ref x0, .ref x1, .int x2, .ref x3, .int x4] (st) h Q ↔ WP 66 29 [.ref x0, .ref x1, .int x2, .ref x3, .int x4] (.ref x0 :: st) h Q) ∧
  (∀ (x0 : Nat) (x1 : Nat) (x2 : Int32) (x3 : Nat) (x4 : Int32) (y0 : Nat) (st : List Value) (h : AH) (Q : Option Value → AH → Prop) (ht : hT h y0 = 8), WP 66 29 [.ref x0, .ref x1, .int x2, .ref x3, .int x4] (.ref y0 :: st) h Q ↔ WP 66 32 [.ref x0, .ref x1, .int x2, .ref x3, .int x4] (.ref (hR h y0 0) :: st) h Q) ∧
  (∀ (x0 : Nat) (x1 : Nat) (x2 : Int32) (x3 : Nat) (x4 : Int32) (y0 : Nat) (st : List Value) (h : AH) (Q : Option Value → AH → Prop) (ht : hT h y0 = 11), WP 66 32 [.ref x0, .ref x1, .int x2, .ref x3, .int x4] (.ref y0 :: st) h Q ↔ WP 66 35 [.ref x0, .ref x1, .int x2, .ref x3, .int x4] (.int (hI h y0 4) :: st) h Q) ∧
  (∀ (x0 : Nat) (x1 : Nat) (x2 : Int32) (x3 : Nat) (x4 : Int32) (st : List Value) (h : AH) (Q : Option Value → AH → Prop), WP 66 35 [.ref x0, .ref x1, .int x2, .ref x3, .int x4] (st) h Q ↔ WP 66 37 [.ref x0, .ref x1, .int x2, .ref x3, .int x4] (.int (10) :: st) h Q) ∧
  (∀ (x0 : Nat) (x1 : Nat) (x2 : Int32) (x3 : Nat) (x4 : Int32) (y0 : Int32) (y1 : Int32) (st : List Value) (h : AH) (Q : Option Value → AH → Prop), WP 66 37 [.ref x0, .ref x1, .int x2, .ref x3, .int x4] (.int y0 :: .int y1 :: st) h Q ↔ ((¬ y1 = y0 → WP 66 70 [.ref x0, .ref x1, .int x2, .ref x3, .int x4] (st) h Q) ∧ (y1 = y0 → WP 66 40 [.ref x0, .ref x1, .int x2, .ref x3, .int x4] (st) h Q))) ∧
  (∀ (x0 : Nat) (x1 : Nat) (x2 : Int32) (x3 : Nat) (x4 : Int32) (st : List Value) (h : AH) (Q : Option Value → AH → Prop), WP 66 40 [.ref x0, .ref x1, .int x2, .ref x3, .int x4] (st) h Q ↔ WP 66 41 [.ref x0, .ref x1, .int x2, .ref x3, .int x4] (.ref x0 :: st) h Q) ∧
  (∀ (x0 : Nat) (x1 : Nat) (x2 : Int32) (x3 : Nat) (x4 : Int32) (y0 : Nat) (st : List Value) (h : AH) (Q : Option Value → AH → Prop) (ht : hT h y0 = 8), WP 66 41 [.ref x0, .ref x1, .int x2, .ref x3, .int x4] (.ref y0 :: st) h Q ↔ WP 66 44 [.ref x0, .ref x1, .int x2, .ref x3, .int x4] (.ref (hR h y0 0) :: st) h Q) ∧
  (∀ (x0 : Nat) (x1 : Nat) (x2 : Int32) (x3 : Nat) (x4 : Int32) (y0 : Nat) (h : AH) (Q : Option Value → AH → Prop) (ht : hT h y0 = 11), WP 66 44 [.ref x0, .ref x1, .int x2, .ref x3, .int x4] ([.ref y0]) h Q ↔ WPM 94 [.ref y0] h (fun r h' => WP 66 47 [.ref x0, .ref x1, .int x2, .ref x3, .int x4] (r.toList ++ []) h' Q)) ∧
  (∀ (x0 : Nat) (x1 : Nat) (x2 : Int32) (x3 : Nat) (x4 : Int32) (y0 : Int32) (st : List Value) (h : AH) (Q : Option Value → AH → Prop), WP 66 47 [.ref x0, .ref x1, .int x2, .ref x3, .int x4] (.int y0 :: st) h Q ↔ ((¬ y0 = 0 → WP 66 57 [.ref x0, .ref x1, .int x2, .ref x3, .int x4] (st) h Q) ∧ (y0 = 0 → WP 66 50 [.ref x0, .ref x1, .int x2, .ref x3, .int x4] (st) h Q))) ∧
  (∀ (x0 : Nat) (x1 : Nat) (x2 : Int32) (x3 : Nat) (x4 : Int32) (st : List Value) (h : AH) (Q : Option Value → AH → Prop), WP 66 50 [.ref x0, .ref x1, .int x2, .ref x3, .int x4] (st) h Q ↔ WP 66 51 [.ref x0, .ref x1, .int x2, .ref x3, .int x4] (.ref x3 :: st) h Q) ∧
  (∀ (x0 : Nat) (x1 : Nat) (x2 : Int32) (x3 : Nat) (x4 : Int32) (y0 : Nat) (st : List Value) (h : AH) (Q : Option Value → AH → Prop) (ht : hT h y0 = 4), WP 66 51 [.ref x0, .ref x1, .int x2, .ref x3, .int x4] (.ref y0 :: st) h Q ↔ WP 66 54 [.ref x0, .ref x1, .int x2, .ref x3, .int x4] (.int (hI h y0 2) :: st) h Q) ∧
  (∀ (x0 : Nat) (x1 : Nat) (x2 : Int32) (x3 : Nat) (x4 : Int32) (y0 : Int32) (st : List Value) (h : AH) (Q : Option Value → AH → Prop), WP 66 54 [.ref x0, .ref x1, .int x2, .ref x3, .int x4] (.int y0 :: st) h Q ↔ ((¬ y0 = 0 → WP 66 65 [.ref x0, .ref x1, .int x2, .ref x3, .int x4] (st) h Q) ∧ (y0 = 0 → WP 66 57 [.ref x0, .ref x1, .int x2, .ref x3, .int x4] (st) h Q))) ∧
  (∀ (x0 : Nat) (x1 : Nat) (x2 : Int32) (x3 : Nat) (x4 : Int32) (st : List Value) (h : AH) (Q : Option Value → AH → Prop), WP 66 57 [.ref x0, .ref x1, .int x2, .ref x3, .int x4] (st) h Q ↔ WP 66 58 [.ref x0, .ref x1, .int x2, .ref x3, .int x4] (.ref x0 :: st) h Q) ∧
  (∀ (x0 : Nat) (x1 : Nat) (x2 : Int32) (x3 : Nat) (x4 : Int32) (st : List Value) (h : AH) (Q : Option Value → AH → Prop), WP 66 58 [.ref x0, .ref x1, .int x2, .ref x3, .int x4] (st) h Q ↔ WP 66 59 [.ref x0, .ref x1, .int x2, .ref x3, .int x4] (.int (1) :: st) h Q) ∧
  (∀ (x0 : Nat) (x1 : Nat) (x2 : Int32) (x3 : Nat) (x4 : Int32) (y1 : Nat) (y0 : Int32) (h : AH) (Q : Option Value → AH → Prop) (ht : hT h y1 = 8), WP 66 59 [.ref x0, .ref x1, .int x2, .ref x3, .int x4] ([.int y0, .ref y1]) h Q ↔ WPM 63 [.ref y1, .int y0] h (fun r h' => WP 66 62 [.ref x0, .ref x1, .int x2, .ref x3, .int x4] (r.toList ++ []) h' Q)) ∧
  (∀ (x0 : Nat) (x1 : Nat) (x2 : Int32) (x3 : Nat) (x4 : Int32) (st : List Value) (h : AH) (Q : Option Value → AH → Prop), WP 66 62 [.ref x0, .ref x1, .int x2, .ref x3, .int x4] (st) h Q ↔ WP 66 69 [.ref x0, .ref x1, .int x2, .ref x3, .int x4] (st) h Q) ∧
  (∀ (x0 : Nat) (x1 : Nat) (x2 : Int32) (x3 : Nat) (x4 : Int32) (st : List Value) (h : AH) (Q : Option Value → AH → Prop), WP 66 65 [.ref x0, .ref x1, .int x2, .ref x3, .int x4] (st) h Q ↔ WP 66 66 [.ref x0, .ref x1, .int x2, .ref x3, .int x4] (.ref x3 :: st) h Q) ∧
  (∀ (x0 : Nat) (x1 : Nat) (x2 : Int32) (x3 : Nat) (x4 : Int32) (y0 : Nat) (h : AH) (Q : Option Value → AH → Prop) (ht : hT h y0 = 4), WP 66 66 [.ref x0, .ref x1, .int x2, .ref x3, .int x4] ([.ref y0]) h Q ↔ WPM 28 [.ref y0] h (fun r h' => WP 66 69 [.ref x0, .ref x1, .int x2, .ref x3, .int x4] (r.toList ++ []) h' Q)) ∧
  (∀ (x0 : Nat) (x1 : Nat) (x2 : Int32) (x3 : Nat) (x4 : Int32) (y0 : Int32) (h : AH) (Q : Option Value → AH → Prop) (hz : y0 = 0 ∨ y0 = 1), WP 66 69 [.ref x0, .ref x1, .int x2, .ref x3, .int x4] ([.int y0]) h Q ↔ Q (some (.int y0)) h) ∧
  (∀ (x0 : Nat) (x1 : Nat) (x2 : Int32) (x3 : Nat) (x4 : Int32) (st : List Value) (h : AH) (Q : Option Value → AH → Prop), WP 66 70 [.ref x0, .ref x1, .int x2, .ref x3, .int x4] (st) h Q ↔ WP 66 71 [.ref x0, .ref x1, .int x2, .ref x3, .int x4] (.ref x0 :: st) h Q) ∧
  (∀ (x0 : Nat) (x1 : Nat) (x2 : Int32) (x3 : Nat) (x4 : Int32) (st : List Value) (h : AH) (Q : Option Value → AH → Prop), WP 66 71 [.ref x0, .ref x1, .int x2, .ref x3, .int x4] (st) h Q ↔ WP 66 72 [.ref x0, .ref x1, .int x2, .ref x3, .int x4] (.ref x3 :: st) h Q) ∧
  (∀ (x0 : Nat) (x1 : Nat) (x2 : Int32) (x3 : Nat) (x4 : Int32) (y1 : Nat) (y0 : Nat) (h : AH) (Q : Option Value → AH → Prop) (ht : hT h y1 = 8), WP 66 72 [.ref x0, .ref x1, .int x2, .ref x3, .int x4] ([.ref y0, .ref y1]) h Q ↔ WPM 67 [.ref y1, .ref y0] h (fun r h' => WP 66 75 [.ref x0, .ref x1, .int x2, .ref x3, .int x4] (r.toList ++ []) h' Q)) ∧
  (∀ (x0 : Nat) (x1 : Nat) (x2 : Int32) (x3 : Nat) (x4 : Int32) (y0 : Int32) (st : List Value) (h : AH) (Q : Option Value → AH → Prop), WP 66 75 [.ref x0, .ref x1, .int x2, .ref x3, .int x4] (.int y0 :: st) h Q ↔ ((¬ y0 = 0 → WP 66 80 [.ref x0, .ref x1, .int x2, .ref x3, .int x4] (st) h Q) ∧ (y0 = 0 → WP 66 78 [.ref x0, .ref x1, .int x2, .ref x3, .int x4] (st) h Q))) ∧
  (∀ (x0 : Nat) (x1 : Nat) (x2 : Int32) (x3 : Nat) (x4 : Int32) (st : List Value) (h : AH) (Q : Option Value → AH → Prop), WP 66 78 [.ref x0, .ref x1, .int x2, .ref x3, .int x4] (st) h Q ↔ WP 66 79 [.ref x0, .ref x1, .int x2, .ref x3, .int x4] (.int (0) :: st) h Q) ∧
  (∀ (x0 : Nat) (x1 : Nat) (x2 : Int32) (x3 : Nat) (x4 : Int32) (y0 : Int32) (h : AH) (Q : Option Value → AH → Prop) (hz : y0 = 0 ∨ y0 = 1), WP 66 79 [.ref x0, .ref x1, .int x2, .ref x3, .int x4] ([.int y0]) h Q ↔ Q (some (.int y0)) h) ∧
  (∀ (x0 : Nat) (x1 : Nat) (x2 : Int32) (x3 : Nat) (x4 : Int32) (st : List Value) (h : AH) (Q : Option Value → AH → Prop), WP 66 80 [.ref x0, .ref x1, .int x2, .ref x3, .int x4] (st) h Q ↔ WP 66 83 [.ref x0, .ref x1, .int x2, .ref x3, .int (x4 + (1))] (st) h Q) ∧
  (∀ (x0 : Nat) (x1 : Nat) (x2 : Int32) (x3 : Nat) (x4 : Int32) (st : List Value) (h : AH) (Q : Option Value → AH → Prop), WP 66 83 [.ref x0, .ref x1, .int x2, .ref x3, .int x4] (st) h Q ↔ WP 66 13 [.ref x0, .ref x1, .int x2, .ref x3, .int x4] (st) h Q) :=
  ⟨fun _ _ _ _ _ _ _ => WP_s (show ct 66 0 = some (.aload_n 0, 0, []) by decide +kernel) rfl,
  fun _ _ _ _ _ _ _ => WP_s (show ct 66 1 = some (.aload_n 1, 0, []) by decide +kernel) rfl,
  fun _ _ _ _ _ _ _ => WP_s (show ct 66 2 = some (.iload_n 2, 0, []) by decide +kernel) rfl,
  fun _ _ _ _ _ _ _ _ _ ht => WC_1 (show ct 66 3 = some (.invokevirtual 38, 3, [65, 3, 1, 8, 0, 632, 634, 2]) by decide +kernel) (Nat.le_of_ble_eq_true rfl) (Nat.le_of_ble_eq_true rfl) rfl rfl ht,
  fun _ _ _ _ _ _ _ => WP_s (show ct 66 6 = some (.aload_n 3, 0, []) by decide +kernel) rfl,
  fun _ _ _ _ _ _ _ ht => WC_1 (show ct 66 7 = some (.invokevirtual 41, 3, [23, 1, 1, 4, 0, 643, 644, 645]) by decide +kernel) (Nat.le_of_ble_eq_true rfl) (Nat.le_of_ble_eq_true rfl) rfl rfl ht,
  fun _ _ _ _ _ _ _ => WP_s (show ct 66 10 = some (.iconst 0, 0, []) by decide +kernel) rfl,
  fun _ _ _ _ _ _ _ _ => WP_s (show ct 66 11 = some (.istore 4, 0, []) by decide +kernel) rfl,
  fun _ _ _ _ _ _ _ _ => WP_s (show ct 66 15 = some (.sipush 500, 0, []) by decide +kernel) rfl,
  fun _ _ _ _ _ _ _ _ _ _ => WI_gt (show ct 66 18 = some (.if_icmp .gt 68, 0, [86]) by decide +kernel) (by decide),
  fun _ _ _ _ _ _ _ _ => WP_s (show ct 66 21 = some (.aload_n 0, 0, []) by decide +kernel) rfl,
  fun _ _ _ _ _ _ _ _ _ ht => WH_gR (show ct 66 22 = some (.getfield 12, 1, [7, 0, 2, 305]) by decide +kernel) ht,
  fun _ _ _ _ _ _ _ _ ht => WC_1 (show ct 66 25 = some (.invokevirtual 46, 3, [95, 1, 1, 11, 0, 647, 648, 649]) by decide +kernel) (Nat.le_of_ble_eq_true rfl) (Nat.le_of_ble_eq_true rfl) rfl rfl ht,
  fun _ _ _ _ _ _ _ _ => WP_s (show ct 66 28 = some (.aload_n 0, 0, []) by decide +kernel) rfl,
  fun _ _ _ _ _ _ _ _ _ ht => WH_gR (show ct 66 29 = some (.getfield 12, 1, [7, 0, 2, 305]) by decide +kernel) ht,
  fun _ _ _ _ _ _ _ _ _ ht => WH_gI (show ct 66 32 = some (.getfield 49, 1, [10, 4, 0, 285]) by decide +kernel) (by decide) ht,
  fun _ _ _ _ _ _ _ _ => WP_s (show ct 66 35 = some (.bipush 10, 0, []) by decide +kernel) rfl,
  fun _ _ _ _ _ _ _ _ _ _ => WI_ne (show ct 66 37 = some (.if_icmp .ne 33, 0, [70]) by decide +kernel) (by decide),
  fun _ _ _ _ _ _ _ _ => WP_s (show ct 66 40 = some (.aload_n 0, 0, []) by decide +kernel) rfl,
  fun _ _ _ _ _ _ _ _ _ ht => WH_gR (show ct 66 41 = some (.getfield 12, 1, [7, 0, 2, 305]) by decide +kernel) ht,
  fun _ _ _ _ _ _ _ _ ht => WC_1 (show ct 66 44 = some (.invokevirtual 50, 3, [94, 1, 1, 11, 0, 676, 677, 678]) by decide +kernel) (Nat.le_of_ble_eq_true rfl) (Nat.le_of_ble_eq_true rfl) rfl rfl ht,
  fun _ _ _ _ _ _ _ _ _ => WZ_ne (show ct 66 47 = some (.ifCond .ne 10, 0, [57]) by decide +kernel) (by decide),
  fun _ _ _ _ _ _ _ _ => WP_s (show ct 66 50 = some (.aload_n 3, 0, []) by decide +kernel) rfl,
  fun _ _ _ _ _ _ _ _ _ ht => WH_gI (show ct 66 51 = some (.getfield 54, 1, [3, 2, 0, 149]) by decide +kernel) (by decide) ht,
  fun _ _ _ _ _ _ _ _ _ => WZ_ne (show ct 66 54 = some (.ifCond .ne 11, 0, [65]) by decide +kernel) (by decide),
  fun _ _ _ _ _ _ _ _ => WP_s (show ct 66 57 = some (.aload_n 0, 0, []) by decide +kernel) rfl,
  fun _ _ _ _ _ _ _ _ => WP_s (show ct 66 58 = some (.iconst 1, 0, []) by decide +kernel) rfl,
  fun _ _ _ _ _ _ _ _ _ ht => WC_1 (show ct 66 59 = some (.invokevirtual 30, 3, [63, 2, 1, 8, 0, 680, 682, 7]) by decide +kernel) (Nat.le_of_ble_eq_true rfl) (Nat.le_of_ble_eq_true rfl) rfl rfl ht,
  fun _ _ _ _ _ _ _ _ => WP_s (show ct 66 62 = some (.goto 7, 0, [69]) by decide +kernel) rfl,
  fun _ _ _ _ _ _ _ _ => WP_s (show ct 66 65 = some (.aload_n 3, 0, []) by decide +kernel) rfl,
  fun _ _ _ _ _ _ _ _ ht => WC_1 (show ct 66 66 = some (.invokevirtual 57, 3, [28, 1, 1, 4, 0, 684, 685, 686]) by decide +kernel) (Nat.le_of_ble_eq_true rfl) (Nat.le_of_ble_eq_true rfl) rfl rfl ht,
  fun _ _ _ _ _ _ _ _ hz => WR_z (show ct 66 69 = some (.ireturn, 2, [1]) by decide +kernel) hz,
  fun _ _ _ _ _ _ _ _ => WP_s (show ct 66 70 = some (.aload_n 0, 0, []) by decide +kernel) rfl,
  fun _ _ _ _ _ _ _ _ => WP_s (show ct 66 71 = some (.aload_n 3, 0, []) by decide +kernel) rfl,
  fun _ _ _ _ _ _ _ _ _ ht => WC_1 (show ct 66 72 = some (.invokevirtual 60, 3, [67, 2, 1, 8, 0, 716, 718, 12]) by decide +kernel) (Nat.le_of_ble_eq_true rfl) (Nat.le_of_ble_eq_true rfl) rfl rfl ht,
  fun _ _ _ _ _ _ _ _ _ => WZ_ne (show ct 66 75 = some (.ifCond .ne 5, 0, [80]) by decide +kernel) (by decide),
  fun _ _ _ _ _ _ _ _ => WP_s (show ct 66 78 = some (.iconst 0, 0, []) by decide +kernel) rfl,
  fun _ _ _ _ _ _ _ _ hz => WR_z (show ct 66 79 = some (.ireturn, 2, [1]) by decide +kernel) hz,
  fun _ _ _ _ _ _ _ _ => WP_s (show ct 66 80 = some (.iinc 4 1, 0, []) by decide +kernel) rfl,
  fun _ _ _ _ _ _ _ _ => WP_s (show ct 66 83 = some (.goto (-70), 0, [13]) by decide +kernel) rfl⟩
set_option maxRecDepth 10000 in
theorem w66_b : (∀ (x0 : Nat) (x1 : Nat) (x2 : Int32) (x3 : Nat) (x4 : Int32) (st : List Value) (h : AH) (Q : Option Value → AH → Prop), WP 66 86 [.ref x0, .ref x1, .int x2, .ref x3, .int x4] (st) h Q ↔ WP 66 87 [.ref x0, .ref x1, .int x2, .ref x3, .int x4] (.ref x0 :: st) h Q) ∧
  (∀ (x0 : Nat) (x1 : Nat) (x2 : Int32) (x3 : Nat) (x4 : Int32) (st : List Value) (h : AH) (Q : Option Value → AH → Prop), WP 66 87 [.ref x0, .ref x1, .int x2, .ref x3, .int x4] (st) h Q ↔ WP 66 88 [.ref x0, .ref x1, .int x2, .ref x3, .int x4] (.int (1) :: st) h Q) ∧
  (∀ (x0 : Nat) (x1 : Nat) (x2 : Int32) (x3 : Nat) (x4 : Int32) (y1 : Nat) (y0 : Int32) (h : AH) (Q : Option Value → AH → Prop) (ht : hT h y1 = 8), WP 66 88 [.ref x0, .ref x1, .int x2, .ref x3, .int x4] ([.int y0, .ref y1]) h Q ↔ WPM 63 [.ref y1, .int y0] h (fun r h' => WP 66 91 [.ref x0, .ref x1, .int x2, .ref x3, .int x4] (r.toList ++ []) h' Q)) ∧
  (∀ (x0 : Nat) (x1 : Nat) (x2 : Int32) (x3 : Nat) (x4 : Int32) (y0 : Int32) (h : AH) (Q : Option Value → AH → Prop) (hz : y0 = 0 ∨ y0 = 1), WP 66 91 [.ref x0, .ref x1, .int x2, .ref x3, .int x4] ([.int y0]) h Q ↔ Q (some (.int y0)) h) :=
  ⟨fun _ _ _ _ _ _ _ _ => WP_s (show ct 66 86 = some (.aload_n 0, 0, []) by decide +kernel) rfl,
  fun _ _ _ _ _ _ _ _ => WP_s (show ct 66 87 = some (.iconst 1, 0, []) by decide +kernel) rfl,
  fun _ _ _ _ _ _ _ _ _ ht => WC_1 (show ct 66 88 = some (.invokevirtual 30, 3, [63, 2, 1, 8, 0, 680, 682, 7]) by decide +kernel) (Nat.le_of_ble_eq_true rfl) (Nat.le_of_ble_eq_true rfl) rfl rfl ht,
  fun _ _ _ _ _ _ _ _ hz => WR_z (show ct 66 91 = some (.ireturn, 2, [1]) by decide +kernel) hz⟩
/-- all of 66 -/
def w66_n : Nat := 2
/-! 67: FewBowls$Reader.readLine(LFewBowls$Net;)Z; loop heads [] -/
set_option maxRecDepth 10000 in
theorem w67_a : (∀ (x0 : Nat) (x1 : Nat) (st : List Value) (h : AH) (Q : Option Value → AH → Prop), WP 67 0 [.ref x0, .ref x1, .retAddr 0, .retAddr 0, .retAddr 0, .retAddr 0] (st) h Q ↔ WP 67 1 [.ref x0, .ref x1, .retAddr 0, .retAddr 0, .retAddr 0, .retAddr 0] (.ref x0 :: st) h Q) ∧
  (∀ (x0 : Nat) (x1 : Nat) (y0 : Nat) (st : List Value) (h : AH) (Q : Option Value → AH → Prop) (ht : hT h y0 = 8), WP 67 1 [.ref x0, .ref x1, .retAddr 0, .retAddr 0, .retAddr 0, .retAddr 0] (.ref y0 :: st) h Q ↔ WP 67 4 [.ref x0, .ref x1, .retAddr 0, .retAddr 0, .retAddr 0, .retAddr 0] (.ref (hR h y0 0) :: st) h Q) ∧
  (∀ (x0 : Nat) (x1 : Nat) (y0 : Nat) (st : List Value) (h : AH) (Q : Option Value → AH → Prop) (ht : hT h y0 = 11), WP 67 4 [.ref x0, .ref x1, .retAddr 0, .retAddr 0, .retAddr 0, .retAddr 0] (.ref y0 :: st) h Q ↔ WP 67 7 [.ref x0, .ref x1, .retAddr 0, .retAddr 0, .retAddr 0, .retAddr 0] (.int (hI h y0 4) :: st) h Q) ∧
  (∀ (x0 : Nat) (x1 : Nat) (y0 : Int32) (st : List Value) (h : AH) (Q : Option Value → AH → Prop), WP 67 7 [.ref x0, .ref x1, .retAddr 0, .retAddr 0, .retAddr 0, .retAddr 0] (.int y0 :: st) h Q ↔ WP 67 8 [.ref x0, .ref x1, .int y0, .retAddr 0, .retAddr 0, .retAddr 0] (st) h Q) ∧
  (∀ (x0 : Nat) (x1 : Nat) (x2 : Int32) (st : List Value) (h : AH) (Q : Option Value → AH → Prop), WP 67 8 [.ref x0, .ref x1, .int x2, .retAddr 0, .retAddr 0, .retAddr 0] (st) h Q ↔ WP 67 9 [.ref x0, .ref x1, .int x2, .retAddr 0, .retAddr 0, .retAddr 0] (.int x2 :: st) h Q) ∧
  (∀ (x0 : Nat) (x1 : Nat) (x2 : Int32) (st : List Value) (h : AH) (Q : Option Value → AH → Prop), WP 67 9 [.ref x0, .ref x1, .int x2, .retAddr 0, .retAddr 0, .retAddr 0] (st) h Q ↔ WP 67 10 [.ref x0, .ref x1, .int x2, .retAddr 0, .retAddr 0, .retAddr 0] (.int (4) :: st) h Q) ∧
  (∀ (x0 : Nat) (x1 : Nat) (x2 : Int32) (y0 : Int32) (y1 : Int32) (st : List Value) (h : AH) (Q : Option Value → AH → Prop), WP 67 10 [.ref x0, .ref x1, .int x2, .retAddr 0, .retAddr 0, .retAddr 0] (.int y0 :: .int y1 :: st) h Q ↔ ((¬ y1 = y0 → WP 67 19 [.ref x0, .ref x1, .int x2, .retAddr 0, .retAddr 0, .retAddr 0] (st) h Q) ∧ (y1 = y0 → WP 67 13 [.ref x0, .ref x1, .int x2, .retAddr 0, .retAddr 0, .retAddr 0] (st) h Q))) ∧
  (∀ (x0 : Nat) (x1 : Nat) (x2 : Int32) (st : List Value) (h : AH) (Q : Option Value → AH → Prop), WP 67 13 [.ref x0, .ref x1, .int x2, .retAddr 0, .retAddr 0, .retAddr 0] (st) h Q ↔ WP 67 14 [.ref x0, .ref x1, .int x2, .retAddr 0, .retAddr 0, .retAddr 0] (.ref x0 :: st) h Q) ∧
  (∀ (x0 : Nat) (x1 : Nat) (x2 : Int32) (st : List Value) (h : AH) (Q : Option Value → AH → Prop), WP 67 14 [.ref x0, .ref x1, .int x2, .retAddr 0, .retAddr 0, .retAddr 0] (st) h Q ↔ WP 67 15 [.ref x0, .ref x1, .int x2, .retAddr 0, .retAddr 0, .retAddr 0] (.ref x1 :: st) h Q) ∧
  (∀ (x0 : Nat) (x1 : Nat) (x2 : Int32) (y1 : Nat) (y0 : Nat) (h : AH) (Q : Option Value → AH → Prop) (ht : hT h y1 = 8), WP 67 15 [.ref x0, .ref x1, .int x2, .retAddr 0, .retAddr 0, .retAddr 0] ([.ref y0, .ref y1]) h Q ↔ WPM 70 [.ref y1, .ref y0] h (fun r h' => WP 67 18 [.ref x0, .ref x1, .int x2, .retAddr 0, .retAddr 0, .retAddr 0] (r.toList ++ []) h' Q)) ∧
  (∀ (x0 : Nat) (x1 : Nat) (x2 : Int32) (y0 : Int32) (h : AH) (Q : Option Value → AH → Prop) (hz : y0 = 0 ∨ y0 = 1), WP 67 18 [.ref x0, .ref x1, .int x2, .retAddr 0, .retAddr 0, .retAddr 0] ([.int y0]) h Q ↔ Q (some (.int y0)) h) ∧
  (∀ (x0 : Nat) (x1 : Nat) (x2 : Int32) (st : List Value) (h : AH) (Q : Option Value → AH → Prop), WP 67 19 [.ref x0, .ref x1, .int x2, .retAddr 0, .retAddr 0, .retAddr 0] (st) h Q ↔ WP 67 20 [.ref x0, .ref x1, .int x2, .retAddr 0, .retAddr 0, .retAddr 0] (.int x2 :: st) h Q) ∧
  (∀ (x0 : Nat) (x1 : Nat) (x2 : Int32) (y0 : Int32) (st : List Value) (h : AH) (Q : Option Value → AH → Prop), WP 67 20 [.ref x0, .ref x1, .int x2, .retAddr 0, .retAddr 0, .retAddr 0] (.int y0 :: st) h Q ↔ ((y0 = 0 → WP 67 34 [.ref x0, .ref x1, .int x2, .retAddr 0, .retAddr 0, .retAddr 0] (st) h Q) ∧ (¬ y0 = 0 → WP 67 23 [.ref x0, .ref x1, .int x2, .retAddr 0, .retAddr 0, .retAddr 0] (st) h Q))) ∧
  (∀ (x0 : Nat) (x1 : Nat) (x2 : Int32) (st : List Value) (h : AH) (Q : Option Value → AH → Prop), WP 67 23 [.ref x0, .ref x1, .int x2, .retAddr 0, .retAddr 0, .retAddr 0] (st) h Q ↔ WP 67 24 [.ref x0, .ref x1, .int x2, .retAddr 0, .retAddr 0, .retAddr 0] (.int x2 :: st) h Q) ∧
  (∀ (x0 : Nat) (x1 : Nat) (x2 : Int32) (st : List Value) (h : AH) (Q : Option Value → AH → Prop), WP 67 24 [.ref x0, .ref x1, .int x2, .retAddr 0, .retAddr 0, .retAddr 0] (st) h Q ↔ WP 67 25 [.ref x0, .ref x1, .int x2, .retAddr 0, .retAddr 0, .retAddr 0] (.int (1) :: st) h Q) ∧
  (∀ (x0 : Nat) (x1 : Nat) (x2 : Int32) (y0 : Int32) (y1 : Int32) (st : List Value) (h : AH) (Q : Option Value → AH → Prop), WP 67 25 [.ref x0, .ref x1, .int x2, .retAddr 0, .retAddr 0, .retAddr 0] (.int y0 :: .int y1 :: st) h Q ↔ ((y1 = y0 → WP 67 34 [.ref x0, .ref x1, .int x2, .retAddr 0, .retAddr 0, .retAddr 0] (st) h Q) ∧ (¬ y1 = y0 → WP 67 28 [.ref x0, .ref x1, .int x2, .retAddr 0, .retAddr 0, .retAddr 0] (st) h Q))) ∧
  (∀ (x0 : Nat) (x1 : Nat) (x2 : Int32) (st : List Value) (h : AH) (Q : Option Value → AH → Prop), WP 67 28 [.ref x0, .ref x1, .int x2, .retAddr 0, .retAddr 0, .retAddr 0] (st) h Q ↔ WP 67 29 [.ref x0, .ref x1, .int x2, .retAddr 0, .retAddr 0, .retAddr 0] (.ref x0 :: st) h Q) ∧
  (∀ (x0 : Nat) (x1 : Nat) (x2 : Int32) (st : List Value) (h : AH) (Q : Option Value → AH → Prop), WP 67 29 [.ref x0, .ref x1, .int x2, .retAddr 0, .retAddr 0, .retAddr 0] (st) h Q ↔ WP 67 30 [.ref x0, .ref x1, .int x2, .retAddr 0, .retAddr 0, .retAddr 0] (.int (1) :: st) h Q) ∧
  (∀ (x0 : Nat) (x1 : Nat) (x2 : Int32) (y1 : Nat) (y0 : Int32) (h : AH) (Q : Option Value → AH → Prop) (ht : hT h y1 = 8), WP 67 30 [.ref x0, .ref x1, .int x2, .retAddr 0, .retAddr 0, .retAddr 0] ([.int y0, .ref y1]) h Q ↔ WPM 63 [.ref y1, .int y0] h (fun r h' => WP 67 33 [.ref x0, .ref x1, .int x2, .retAddr 0, .retAddr 0, .retAddr 0] (r.toList ++ []) h' Q)) ∧
  (∀ (x0 : Nat) (x1 : Nat) (x2 : Int32) (y0 : Int32) (h : AH) (Q : Option Value → AH → Prop) (hz : y0 = 0 ∨ y0 = 1), WP 67 33 [.ref x0, .ref x1, .int x2, .retAddr 0, .retAddr 0, .retAddr 0] ([.int y0]) h Q ↔ Q (some (.int y0)) h) ∧
  (∀ (x0 : Nat) (x1 : Nat) (x2 : Int32) (st : List Value) (h : AH) (Q : Option Value → AH → Prop), WP 67 34 [.ref x0, .ref x1, .int x2, .retAddr 0, .retAddr 0, .retAddr 0] (st) h Q ↔ WP 67 35 [.ref x0, .ref x1, .int x2, .retAddr 0, .retAddr 0, .retAddr 0] (.ref x1 :: st) h Q) ∧
  (∀ (x0 : Nat) (x1 : Nat) (x2 : Int32) (y0 : Nat) (st : List Value) (h : AH) (Q : Option Value → AH → Prop) (ht : hT h y0 = 4), WP 67 35 [.ref x0, .ref x1, .int x2, .retAddr 0, .retAddr 0, .retAddr 0] (.ref y0 :: st) h Q ↔ WP 67 38 [.ref x0, .ref x1, .int x2, .retAddr 0, .retAddr 0, .retAddr 0] (.int (hI h y0 0) :: st) h Q) ∧
  (∀ (x0 : Nat) (x1 : Nat) (x2 : Int32) (st : List Value) (h : AH) (Q : Option Value → AH → Prop), WP 67 38 [.ref x0, .ref x1, .int x2, .retAddr 0, .retAddr 0, .retAddr 0] (st) h Q ↔ WP 67 40 [.ref x0, .ref x1, .int x2, .retAddr 0, .retAddr 0, .retAddr 0] (.int (14) :: st) h Q) ∧
  (∀ (x0 : Nat) (x1 : Nat) (x2 : Int32) (y0 : Int32) (y1 : Int32) (st : List Value) (h : AH) (Q : Option Value → AH → Prop), WP 67 40 [.ref x0, .ref x1, .int x2, .retAddr 0, .retAddr 0, .retAddr 0] (.int y0 :: .int y1 :: st) h Q ↔ ((y1 < y0 → WP 67 49 [.ref x0, .ref x1, .int x2, .retAddr 0, .retAddr 0, .retAddr 0] (st) h Q) ∧ (¬ y1 < y0 → WP 67 43 [.ref x0, .ref x1, .int x2, .retAddr 0, .retAddr 0, .retAddr 0] (st) h Q))) ∧
  (∀ (x0 : Nat) (x1 : Nat) (x2 : Int32) (st : List Value) (h : AH) (Q : Option Value → AH → Prop), WP 67 43 [.ref x0, .ref x1, .int x2, .retAddr 0, .retAddr 0, .retAddr 0] (st) h Q ↔ WP 67 44 [.ref x0, .ref x1, .int x2, .retAddr 0, .retAddr 0, .retAddr 0] (.ref x0 :: st) h Q) ∧
  (∀ (x0 : Nat) (x1 : Nat) (x2 : Int32) (st : List Value) (h : AH) (Q : Option Value → AH → Prop), WP 67 44 [.ref x0, .ref x1, .int x2, .retAddr 0, .retAddr 0, .retAddr 0] (st) h Q ↔ WP 67 45 [.ref x0, .ref x1, .int x2, .retAddr 0, .retAddr 0, .retAddr 0] (.int (4) :: st) h Q) ∧
  (∀ (x0 : Nat) (x1 : Nat) (x2 : Int32) (y1 : Nat) (y0 : Int32) (h : AH) (Q : Option Value → AH → Prop) (ht : hT h y1 = 8), WP 67 45 [.ref x0, .ref x1, .int x2, .retAddr 0, .retAddr 0, .retAddr 0] ([.int y0, .ref y1]) h Q ↔ WPM 63 [.ref y1, .int y0] h (fun r h' => WP 67 48 [.ref x0, .ref x1, .int x2, .retAddr 0, .retAddr 0, .retAddr 0] (r.toList ++ []) h' Q)) ∧
  (∀ (x0 : Nat) (x1 : Nat) (x2 : Int32) (y0 : Int32) (h : AH) (Q : Option Value → AH → Prop) (hz : y0 = 0 ∨ y0 = 1), WP 67 48 [.ref x0, .ref x1, .int x2, .retAddr 0, .retAddr 0, .retAddr 0] ([.int y0]) h Q ↔ Q (some (.int y0)) h) ∧
  (∀ (x0 : Nat) (x1 : Nat) (x2 : Int32) (st : List Value) (h : AH) (Q : Option Value → AH → Prop), WP 67 49 [.ref x0, .ref x1, .int x2, .retAddr 0, .retAddr 0, .retAddr 0] (st) h Q ↔ WP 67 50 [.ref x0, .ref x1, .int x2, .retAddr 0, .retAddr 0, .retAddr 0] (.ref x0 :: st) h Q) ∧
  (∀ (x0 : Nat) (x1 : Nat) (x2 : Int32) (y0 : Nat) (st : List Value) (h : AH) (Q : Option Value → AH → Prop) (ht : hT h y0 = 8), WP 67 50 [.ref x0, .ref x1, .int x2, .retAddr 0, .retAddr 0, .retAddr 0] (.ref y0 :: st) h Q ↔ WP 67 53 [.ref x0, .ref x1, .int x2, .retAddr 0, .retAddr 0, .retAddr 0] (.ref (hR h y0 0) :: st) h Q) ∧
  (∀ (x0 : Nat) (x1 : Nat) (x2 : Int32) (y0 : Nat) (h : AH) (Q : Option Value → AH → Prop) (ht : hT h y0 = 11), WP 67 53 [.ref x0, .ref x1, .int x2, .retAddr 0, .retAddr 0, .retAddr 0] ([.ref y0]) h Q ↔ WPM 95 [.ref y0] h (fun r h' => WP 67 56 [.ref x0, .ref x1, .int x2, .retAddr 0, .retAddr 0, .retAddr 0] (r.toList ++ []) h' Q)) ∧
  (∀ (x0 : Nat) (x1 : Nat) (x2 : Int32) (st : List Value) (h : AH) (Q : Option Value → AH → Prop), WP 67 56 [.ref x0, .ref x1, .int x2, .retAddr 0, .retAddr 0, .retAddr 0] (st) h Q ↔ WP 67 57 [.ref x0, .ref x1, .int x2, .retAddr 0, .retAddr 0, .retAddr 0] (.ref x0 :: st) h Q) ∧
  (∀ (x0 : Nat) (x1 : Nat) (x2 : Int32) (y0 : Nat) (st : List Value) (h : AH) (Q : Option Value → AH → Prop) (ht : hT h y0 = 8), WP 67 57 [.ref x0, .ref x1, .int x2, .retAddr 0, .retAddr 0, .retAddr 0] (.ref y0 :: st) h Q ↔ WP 67 60 [.ref x0, .ref x1, .int x2, .retAddr 0, .retAddr 0, .retAddr 0] (.ref (hR h y0 0) :: st) h Q) ∧
  (∀ (x0 : Nat) (x1 : Nat) (x2 : Int32) (y0 : Nat) (st : List Value) (h : AH) (Q : Option Value → AH → Prop) (ht : hT h y0 = 11), WP 67 60 [.ref x0, .ref x1, .int x2, .retAddr 0, .retAddr 0, .retAddr 0] (.ref y0 :: st) h Q ↔ WP 67 63 [.ref x0, .ref x1, .int x2, .retAddr 0, .retAddr 0, .retAddr 0] (.int (hI h y0 4) :: st) h Q) ∧
  (∀ (x0 : Nat) (x1 : Nat) (x2 : Int32) (st : List Value) (h : AH) (Q : Option Value → AH → Prop), WP 67 63 [.ref x0, .ref x1, .int x2, .retAddr 0, .retAddr 0, .retAddr 0] (st) h Q ↔ WP 67 65 [.ref x0, .ref x1, .int x2, .retAddr 0, .retAddr 0, .retAddr 0] (.int (7) :: st) h Q) ∧
  (∀ (x0 : Nat) (x1 : Nat) (x2 : Int32) (y0 : Int32) (y1 : Int32) (st : List Value) (h : AH) (Q : Option Value → AH → Prop), WP 67 65 [.ref x0, .ref x1, .int x2, .retAddr 0, .retAddr 0, .retAddr 0] (.int y0 :: .int y1 :: st) h Q ↔ ((y1 = y0 → WP 67 74 [.ref x0, .ref x1, .int x2, .retAddr 0, .retAddr 0, .retAddr 0] (st) h Q) ∧ (¬ y1 = y0 → WP 67 68 [.ref x0, .ref x1, .int x2, .retAddr 0, .retAddr 0, .retAddr 0] (st) h Q))) ∧
  (∀ (x0 : Nat) (x1 : Nat) (x2 : Int32) (st : List Value) (h : AH) (Q : Option Value → AH → Prop), WP 67 68 [.ref x0, .ref x1, .int x2, .retAddr 0, .retAddr 0, .retAddr 0] (st) h Q ↔ WP 67 69 [.ref x0, .ref x1, .int x2, .retAddr 0, .retAddr 0, .retAddr 0] (.ref x0 :: st) h Q) ∧
  (∀ (x0 : Nat) (x1 : Nat) (x2 : Int32) (st : List Value) (h : AH) (Q : Option Value → AH → Prop), WP 67 69 [.ref x0, .ref x1, .int x2, .retAddr 0, .retAddr 0, .retAddr 0] (st) h Q ↔ WP 67 70 [.ref x0, .ref x1, .int x2, .retAddr 0, .retAddr 0, .retAddr 0] (.int (1) :: st) h Q) ∧
  (∀ (x0 : Nat) (x1 : Nat) (x2 : Int32) (y1 : Nat) (y0 : Int32) (h : AH) (Q : Option Value → AH → Prop) (ht : hT h y1 = 8), WP 67 70 [.ref x0, .ref x1, .int x2, .retAddr 0, .retAddr 0, .retAddr 0] ([.int y0, .ref y1]) h Q ↔ WPM 63 [.ref y1, .int y0] h (fun r h' => WP 67 73 [.ref x0, .ref x1, .int x2, .retAddr 0, .retAddr 0, .retAddr 0] (r.toList ++ []) h' Q)) ∧
  (∀ (x0 : Nat) (x1 : Nat) (x2 : Int32) (y0 : Int32) (h : AH) (Q : Option Value → AH → Prop) (hz : y0 = 0 ∨ y0 = 1), WP 67 73 [.ref x0, .ref x1, .int x2, .retAddr 0, .retAddr 0, .retAddr 0] ([.int y0]) h Q ↔ Q (some (.int y0)) h) :=
  ⟨fun _ _ _ _ _ => WP_s (show ct 67 0 = some (.aload_n 0, 0, []) by decide +kernel) rfl,
  fun _ _ _ _ _ _ ht => WH_gR (show ct 67 1 = some (.getfield 12, 1, [7, 0, 2, 305]) by decide +kernel) ht,
  fun _ _ _ _ _ _ ht => WH_gI (show ct 67 4 = some (.getfield 49, 1, [10, 4, 0, 285]) by decide +kernel) (by decide) ht,
  fun _ _ _ _ _ _ => WP_s (show ct 67 7 = some (.istore_n 2, 0, []) by decide +kernel) rfl,
  fun _ _ _ _ _ _ => WP_s (show ct 67 8 = some (.iload_n 2, 0, []) by decide +kernel) rfl,
  fun _ _ _ _ _ _ => WP_s (show ct 67 9 = some (.iconst 4, 0, []) by decide +kernel) rfl,
  fun _ _ _ _ _ _ _ _ => WI_ne (show ct 67 10 = some (.if_icmp .ne 9, 0, [19]) by decide +kernel) (by decide),
  fun _ _ _ _ _ _ => WP_s (show ct 67 13 = some (.aload_n 0, 0, []) by decide +kernel) rfl,
  fun _ _ _ _ _ _ => WP_s (show ct 67 14 = some (.aload_n 1, 0, []) by decide +kernel) rfl,
  fun _ _ _ _ _ _ _ ht => WC_1 (show ct 67 15 = some (.invokevirtual 64, 3, [70, 2, 1, 8, 0, 720, 722, 13]) by decide +kernel) (Nat.le_of_ble_eq_true rfl) (Nat.le_of_ble_eq_true rfl) rfl rfl ht,
  fun _ _ _ _ _ _ hz => WR_z (show ct 67 18 = some (.ireturn, 2, [1]) by decide +kernel) hz,
  fun _ _ _ _ _ _ => WP_s (show ct 67 19 = some (.iload_n 2, 0, []) by decide +kernel) rfl,
  fun _ _ _ _ _ _ _ => WZ_eq (show ct 67 20 = some (.ifCond .eq 14, 0, [34]) by decide +kernel) (by decide),
  fun _ _ _ _ _ _ => WP_s (show ct 67 23 = some (.iload_n 2, 0, []) by decide +kernel) rfl,
  fun _ _ _ _ _ _ => WP_s (show ct 67 24 = some (.iconst 1, 0, []) by decide +kernel) rfl,
  fun _ _ _ _ _ _ _ _ => WI_eq (show ct 67 25 = some (.if_icmp .eq 9, 0, [34]) by decide +kernel) (by decide),
  fun _ _ _ _ _ _ => WP_s (show ct 67 28 = some (.aload_n 0, 0, []) by decide +kernel) rfl,
  fun _ _ _ _ _ _ => WP_s (show ct 67 29 = some (.iconst 1, 0, []) by decide +kernel) rfl,
  fun _ _ _ _ _ _ _ ht => WC_1 (show ct 67 30 = some (.invokevirtual 30, 3, [63, 2, 1, 8, 0, 680, 682, 7]) by decide +kernel) (Nat.le_of_ble_eq_true rfl) (Nat.le_of_ble_eq_true rfl) rfl rfl ht,
  fun _ _ _ _ _ _ hz => WR_z (show ct 67 33 = some (.ireturn, 2, [1]) by decide +kernel) hz,
  fun _ _ _ _ _ _ => WP_s (show ct 67 34 = some (.aload_n 1, 0, []) by decide +kernel) rfl,
  fun _ _ _ _ _ _ _ ht => WH_gI (show ct 67 35 = some (.getfield 67, 1, [3, 0, 0, 139]) by decide +kernel) (by decide) ht,
  fun _ _ _ _ _ _ => WP_s (show ct 67 38 = some (.bipush 14, 0, []) by decide +kernel) rfl,
  fun _ _ _ _ _ _ _ _ => WI_lt (show ct 67 40 = some (.if_icmp .lt 9, 0, [49]) by decide +kernel) (by decide),
  fun _ _ _ _ _ _ => WP_s (show ct 67 43 = some (.aload_n 0, 0, []) by decide +kernel) rfl,
  fun _ _ _ _ _ _ => WP_s (show ct 67 44 = some (.iconst 4, 0, []) by decide +kernel) rfl,
  fun _ _ _ _ _ _ _ ht => WC_1 (show ct 67 45 = some (.invokevirtual 30, 3, [63, 2, 1, 8, 0, 680, 682, 7]) by decide +kernel) (Nat.le_of_ble_eq_true rfl) (Nat.le_of_ble_eq_true rfl) rfl rfl ht,
  fun _ _ _ _ _ _ hz => WR_z (show ct 67 48 = some (.ireturn, 2, [1]) by decide +kernel) hz,
  fun _ _ _ _ _ _ => WP_s (show ct 67 49 = some (.aload_n 0, 0, []) by decide +kernel) rfl,
  fun _ _ _ _ _ _ _ ht => WH_gR (show ct 67 50 = some (.getfield 12, 1, [7, 0, 2, 305]) by decide +kernel) ht,
  fun _ _ _ _ _ _ ht => WC_1 (show ct 67 53 = some (.invokevirtual 46, 3, [95, 1, 1, 11, 0, 647, 648, 649]) by decide +kernel) (Nat.le_of_ble_eq_true rfl) (Nat.le_of_ble_eq_true rfl) rfl rfl ht,
  fun _ _ _ _ _ _ => WP_s (show ct 67 56 = some (.aload_n 0, 0, []) by decide +kernel) rfl,
  fun _ _ _ _ _ _ _ ht => WH_gR (show ct 67 57 = some (.getfield 12, 1, [7, 0, 2, 305]) by decide +kernel) ht,
  fun _ _ _ _ _ _ _ ht => WH_gI (show ct 67 60 = some (.getfield 49, 1, [10, 4, 0, 285]) by decide +kernel) (by decide) ht,
  fun _ _ _ _ _ _ => WP_s (show ct 67 63 = some (.bipush 7, 0, []) by decide +kernel) rfl,
  fun _ _ _ _ _ _ _ _ => WI_eq (show ct 67 65 = some (.if_icmp .eq 9, 0, [74]) by decide +kernel) (by decide),
  fun _ _ _ _ _ _ => WP_s (show ct 67 68 = some (.aload_n 0, 0, []) by decide +kernel) rfl,
  fun _ _ _ _ _ _ => WP_s (show ct 67 69 = some (.iconst 1, 0, []) by decide +kernel) rfl,
  fun _ _ _ _ _ _ _ ht => WC_1 (show ct 67 70 = some (.invokevirtual 30, 3, [63, 2, 1, 8, 0, 680, 682, 7]) by decide +kernel) (Nat.le_of_ble_eq_true rfl) (Nat.le_of_ble_eq_true rfl) rfl rfl ht,
  fun _ _ _ _ _ _ hz => WR_z (show ct 67 73 = some (.ireturn, 2, [1]) by decide +kernel) hz⟩
set_option maxRecDepth 10000 in
theorem w67_b : (∀ (x0 : Nat) (x1 : Nat) (x2 : Int32) (st : List Value) (h : AH) (Q : Option Value → AH → Prop), WP 67 74 [.ref x0, .ref x1, .int x2, .retAddr 0, .retAddr 0, .retAddr 0] (st) h Q ↔ WP 67 75 [.ref x0, .ref x1, .int x2, .retAddr 0, .retAddr 0, .retAddr 0] (.ref x0 :: st) h Q) ∧
  (∀ (x0 : Nat) (x1 : Nat) (x2 : Int32) (y0 : Nat) (st : List Value) (h : AH) (Q : Option Value → AH → Prop) (ht : hT h y0 = 8), WP 67 75 [.ref x0, .ref x1, .int x2, .retAddr 0, .retAddr 0, .retAddr 0] (.ref y0 :: st) h Q ↔ WP 67 78 [.ref x0, .ref x1, .int x2, .retAddr 0, .retAddr 0, .retAddr 0] (.ref (hR h y0 0) :: st) h Q) ∧
  (∀ (x0 : Nat) (x1 : Nat) (x2 : Int32) (y0 : Nat) (st : List Value) (h : AH) (Q : Option Value → AH → Prop) (ht : hT h y0 = 11), WP 67 78 [.ref x0, .ref x1, .int x2, .retAddr 0, .retAddr 0, .retAddr 0] (.ref y0 :: st) h Q ↔ WP 67 81 [.ref x0, .ref x1, .int x2, .retAddr 0, .retAddr 0, .retAddr 0] (.int (hI h y0 6) :: st) h Q) ∧
  (∀ (x0 : Nat) (x1 : Nat) (x2 : Int32) (y0 : Int32) (st : List Value) (h : AH) (Q : Option Value → AH → Prop), WP 67 81 [.ref x0, .ref x1, .int x2, .retAddr 0, .retAddr 0, .retAddr 0] (.int y0 :: st) h Q ↔ WP 67 82 [.ref x0, .ref x1, .int x2, .int y0, .retAddr 0, .retAddr 0] (st) h Q) ∧
  (∀ (x0 : Nat) (x1 : Nat) (x2 : Int32) (x3 : Int32) (st : List Value) (h : AH) (Q : Option Value → AH → Prop), WP 67 82 [.ref x0, .ref x1, .int x2, .int x3, .retAddr 0, .retAddr 0] (st) h Q ↔ WP 67 83 [.ref x0, .ref x1, .int x2, .int x3, .retAddr 0, .retAddr 0] (.ref x1 :: st) h Q) ∧
  (∀ (x0 : Nat) (x1 : Nat) (x2 : Int32) (x3 : Int32) (st : List Value) (h : AH) (Q : Option Value → AH → Prop), WP 67 83 [.ref x0, .ref x1, .int x2, .int x3, .retAddr 0, .retAddr 0] (st) h Q ↔ WP 67 84 [.ref x0, .ref x1, .int x2, .int x3, .retAddr 0, .retAddr 0] (.int x3 :: st) h Q) ∧
  (∀ (x0 : Nat) (x1 : Nat) (x2 : Int32) (x3 : Int32) (y1 : Nat) (y0 : Int32) (h : AH) (Q : Option Value → AH → Prop) (ht : hT h y1 = 4), WP 67 84 [.ref x0, .ref x1, .int x2, .int x3, .retAddr 0, .retAddr 0] ([.int y0, .ref y1]) h Q ↔ WPM 26 [.ref y1, .int y0] h (fun r h' => WP 67 87 [.ref x0, .ref x1, .int x2, .int x3, .retAddr 0, .retAddr 0] (r.toList ++ []) h' Q)) ∧
  (∀ (x0 : Nat) (x1 : Nat) (x2 : Int32) (x3 : Int32) (y0 : Int32) (st : List Value) (h : AH) (Q : Option Value → AH → Prop), WP 67 87 [.ref x0, .ref x1, .int x2, .int x3, .retAddr 0, .retAddr 0] (.int y0 :: st) h Q ↔ ((y0 < 0 → WP 67 96 [.ref x0, .ref x1, .int x2, .int x3, .retAddr 0, .retAddr 0] (st) h Q) ∧ (¬ y0 < 0 → WP 67 90 [.ref x0, .ref x1, .int x2, .int x3, .retAddr 0, .retAddr 0] (st) h Q))) ∧
  (∀ (x0 : Nat) (x1 : Nat) (x2 : Int32) (x3 : Int32) (st : List Value) (h : AH) (Q : Option Value → AH → Prop), WP 67 90 [.ref x0, .ref x1, .int x2, .int x3, .retAddr 0, .retAddr 0] (st) h Q ↔ WP 67 91 [.ref x0, .ref x1, .int x2, .int x3, .retAddr 0, .retAddr 0] (.ref x0 :: st) h Q) ∧
  (∀ (x0 : Nat) (x1 : Nat) (x2 : Int32) (x3 : Int32) (st : List Value) (h : AH) (Q : Option Value → AH → Prop), WP 67 91 [.ref x0, .ref x1, .int x2, .int x3, .retAddr 0, .retAddr 0] (st) h Q ↔ WP 67 92 [.ref x0, .ref x1, .int x2, .int x3, .retAddr 0, .retAddr 0] (.int (3) :: st) h Q) ∧
  (∀ (x0 : Nat) (x1 : Nat) (x2 : Int32) (x3 : Int32) (y1 : Nat) (y0 : Int32) (h : AH) (Q : Option Value → AH → Prop) (ht : hT h y1 = 8), WP 67 92 [.ref x0, .ref x1, .int x2, .int x3, .retAddr 0, .retAddr 0] ([.int y0, .ref y1]) h Q ↔ WPM 63 [.ref y1, .int y0] h (fun r h' => WP 67 95 [.ref x0, .ref x1, .int x2, .int x3, .retAddr 0, .retAddr 0] (r.toList ++ []) h' Q)) ∧
  (∀ (x0 : Nat) (x1 : Nat) (x2 : Int32) (x3 : Int32) (y0 : Int32) (h : AH) (Q : Option Value → AH → Prop) (hz : y0 = 0 ∨ y0 = 1), WP 67 95 [.ref x0, .ref x1, .int x2, .int x3, .retAddr 0, .retAddr 0] ([.int y0]) h Q ↔ Q (some (.int y0)) h) ∧
  (∀ (x0 : Nat) (x1 : Nat) (x2 : Int32) (x3 : Int32) (st : List Value) (h : AH) (Q : Option Value → AH → Prop), WP 67 96 [.ref x0, .ref x1, .int x2, .int x3, .retAddr 0, .retAddr 0] (st) h Q ↔ WP 67 97 [.ref x0, .ref x1, .int x2, .int x3, .retAddr 0, .retAddr 0] (.ref x0 :: st) h Q) ∧
  (∀ (x0 : Nat) (x1 : Nat) (x2 : Int32) (x3 : Int32) (y0 : Nat) (st : List Value) (h : AH) (Q : Option Value → AH → Prop) (ht : hT h y0 = 8), WP 67 97 [.ref x0, .ref x1, .int x2, .int x3, .retAddr 0, .retAddr 0] (.ref y0 :: st) h Q ↔ WP 67 100 [.ref x0, .ref x1, .int x2, .int x3, .retAddr 0, .retAddr 0] (.ref (hR h y0 0) :: st) h Q) ∧
  (∀ (x0 : Nat) (x1 : Nat) (x2 : Int32) (x3 : Int32) (y0 : Nat) (h : AH) (Q : Option Value → AH → Prop) (ht : hT h y0 = 11), WP 67 100 [.ref x0, .ref x1, .int x2, .int x3, .retAddr 0, .retAddr 0] ([.ref y0]) h Q ↔ WPM 95 [.ref y0] h (fun r h' => WP 67 103 [.ref x0, .ref x1, .int x2, .int x3, .retAddr 0, .retAddr 0] (r.toList ++ []) h' Q)) ∧
  (∀ (x0 : Nat) (x1 : Nat) (x2 : Int32) (x3 : Int32) (st : List Value) (h : AH) (Q : Option Value → AH → Prop), WP 67 103 [.ref x0, .ref x1, .int x2, .int x3, .retAddr 0, .retAddr 0] (st) h Q ↔ WP 67 104 [.ref x0, .ref x1, .int x2, .int x3, .retAddr 0, .retAddr 0] (.int x2 :: st) h Q) ∧
  (∀ (x0 : Nat) (x1 : Nat) (x2 : Int32) (x3 : Int32) (st : List Value) (h : AH) (Q : Option Value → AH → Prop), WP 67 104 [.ref x0, .ref x1, .int x2, .int x3, .retAddr 0, .retAddr 0] (st) h Q ↔ WP 67 105 [.ref x0, .ref x1, .int x2, .int x3, .retAddr 0, .retAddr 0] (.int (1) :: st) h Q) ∧
  (∀ (x0 : Nat) (x1 : Nat) (x2 : Int32) (x3 : Int32) (y0 : Int32) (y1 : Int32) (st : List Value) (h : AH) (Q : Option Value → AH → Prop), WP 67 105 [.ref x0, .ref x1, .int x2, .int x3, .retAddr 0, .retAddr 0] (.int y0 :: .int y1 :: st) h Q ↔ ((¬ y1 = y0 → WP 67 116 [.ref x0, .ref x1, .int x2, .int x3, .retAddr 0, .retAddr 0] (st) h Q) ∧ (y1 = y0 → WP 67 108 [.ref x0, .ref x1, .int x2, .int x3, .retAddr 0, .retAddr 0] (st) h Q))) ∧
  (∀ (x0 : Nat) (x1 : Nat) (x2 : Int32) (x3 : Int32) (st : List Value) (h : AH) (Q : Option Value → AH → Prop), WP 67 108 [.ref x0, .ref x1, .int x2, .int x3, .retAddr 0, .retAddr 0] (st) h Q ↔ WP 67 109 [.ref x0, .ref x1, .int x2, .int x3, .retAddr 0, .retAddr 0] (.ref x0 :: st) h Q) ∧
  (∀ (x0 : Nat) (x1 : Nat) (x2 : Int32) (x3 : Int32) (st : List Value) (h : AH) (Q : Option Value → AH → Prop), WP 67 109 [.ref x0, .ref x1, .int x2, .int x3, .retAddr 0, .retAddr 0] (st) h Q ↔ WP 67 110 [.ref x0, .ref x1, .int x2, .int x3, .retAddr 0, .retAddr 0] (.ref x1 :: st) h Q) ∧
  (∀ (x0 : Nat) (x1 : Nat) (x2 : Int32) (x3 : Int32) (y1 : Nat) (y0 : Nat) (h : AH) (Q : Option Value → AH → Prop) (ht : hT h y1 = 8), WP 67 110 [.ref x0, .ref x1, .int x2, .int x3, .retAddr 0, .retAddr 0] ([.ref y0, .ref y1]) h Q ↔ WPM 68 [.ref y1, .ref y0] h (fun r h' => WP 67 113 [.ref x0, .ref x1, .int x2, .int x3, .retAddr 0, .retAddr 0] (r.toList ++ []) h' Q)) ∧
  (∀ (x0 : Nat) (x1 : Nat) (x2 : Int32) (x3 : Int32) (st : List Value) (h : AH) (Q : Option Value → AH → Prop), WP 67 113 [.ref x0, .ref x1, .int x2, .int x3, .retAddr 0, .retAddr 0] (st) h Q ↔ WP 67 117 [.ref x0, .ref x1, .int x2, .int x3, .retAddr 0, .retAddr 0] (st) h Q) ∧
  (∀ (x0 : Nat) (x1 : Nat) (x2 : Int32) (x3 : Int32) (st : List Value) (h : AH) (Q : Option Value → AH → Prop), WP 67 116 [.ref x0, .ref x1, .int x2, .int x3, .retAddr 0, .retAddr 0] (st) h Q ↔ WP 67 117 [.ref x0, .ref x1, .int x2, .int x3, .retAddr 0, .retAddr 0] (.int (0) :: st) h Q) ∧
  (∀ (x0 : Nat) (x1 : Nat) (x2 : Int32) (x3 : Int32) (y0 : Int32) (st : List Value) (h : AH) (Q : Option Value → AH → Prop), WP 67 117 [.ref x0, .ref x1, .int x2, .int x3, .retAddr 0, .retAddr 0] (.int y0 :: st) h Q ↔ WP 67 119 [.ref x0, .ref x1, .int x2, .int x3, .int y0, .retAddr 0] (st) h Q) ∧
  (∀ (x0 : Nat) (x1 : Nat) (x2 : Int32) (x3 : Int32) (x4 : Int32) (st : List Value) (h : AH) (Q : Option Value → AH → Prop), WP 67 119 [.ref x0, .ref x1, .int x2, .int x3, .int x4, .retAddr 0] (st) h Q ↔ WP 67 121 [.ref x0, .ref x1, .int x2, .int x3, .int x4, .retAddr 0] (.int x4 :: st) h Q) ∧
  (∀ (x0 : Nat) (x1 : Nat) (x2 : Int32) (x3 : Int32) (x4 : Int32) (y0 : Int32) (st : List Value) (h : AH) (Q : Option Value → AH → Prop), WP 67 121 [.ref x0, .ref x1, .int x2, .int x3, .int x4, .retAddr 0] (.int y0 :: st) h Q ↔ ((0 ≤ y0 → WP 67 126 [.ref x0, .ref x1, .int x2, .int x3, .int x4, .retAddr 0] (st) h Q) ∧ (¬ 0 ≤ y0 → WP 67 124 [.ref x0, .ref x1, .int x2, .int x3, .int x4, .retAddr 0] (st) h Q))) ∧
  (∀ (x0 : Nat) (x1 : Nat) (x2 : Int32) (x3 : Int32) (x4 : Int32) (st : List Value) (h : AH) (Q : Option Value → AH → Prop), WP 67 124 [.ref x0, .ref x1, .int x2, .int x3, .int x4, .retAddr 0] (st) h Q ↔ WP 67 125 [.ref x0, .ref x1, .int x2, .int x3, .int x4, .retAddr 0] (.int (0) :: st) h Q) ∧
  (∀ (x0 : Nat) (x1 : Nat) (x2 : Int32) (x3 : Int32) (x4 : Int32) (y0 : Int32) (h : AH) (Q : Option Value → AH → Prop) (hz : y0 = 0 ∨ y0 = 1), WP 67 125 [.ref x0, .ref x1, .int x2, .int x3, .int x4, .retAddr 0] ([.int y0]) h Q ↔ Q (some (.int y0)) h) ∧
  (∀ (x0 : Nat) (x1 : Nat) (x2 : Int32) (x3 : Int32) (x4 : Int32) (st : List Value) (h : AH) (Q : Option Value → AH → Prop), WP 67 126 [.ref x0, .ref x1, .int x2, .int x3, .int x4, .retAddr 0] (st) h Q ↔ WP 67 127 [.ref x0, .ref x1, .int x2, .int x3, .int x4, .retAddr 0] (.ref x0 :: st) h Q) ∧
  (∀ (x0 : Nat) (x1 : Nat) (x2 : Int32) (x3 : Int32) (x4 : Int32) (y0 : Nat) (h : AH) (Q : Option Value → AH → Prop) (ht : hT h y0 = 8), WP 67 127 [.ref x0, .ref x1, .int x2, .int x3, .int x4, .retAddr 0] ([.ref y0]) h Q ↔ WPM 69 [.ref y0] h (fun r h' => WP 67 130 [.ref x0, .ref x1, .int x2, .int x3, .int x4, .retAddr 0] (r.toList ++ []) h' Q)) ∧
  (∀ (x0 : Nat) (x1 : Nat) (x2 : Int32) (x3 : Int32) (x4 : Int32) (y0 : Int32) (st : List Value) (h : AH) (Q : Option Value → AH → Prop), WP 67 130 [.ref x0, .ref x1, .int x2, .int x3, .int x4, .retAddr 0] (.int y0 :: st) h Q ↔ WP 67 132 [.ref x0, .ref x1, .int x2, .int x3, .int x4, .int y0] (st) h Q) ∧
  (∀ (x0 : Nat) (x1 : Nat) (x2 : Int32) (x3 : Int32) (x4 : Int32) (x5 : Int32) (st : List Value) (h : AH) (Q : Option Value → AH → Prop), WP 67 132 [.ref x0, .ref x1, .int x2, .int x3, .int x4, .int x5] (st) h Q ↔ WP 67 134 [.ref x0, .ref x1, .int x2, .int x3, .int x4, .int x5] (.int x5 :: st) h Q) ∧
  (∀ (x0 : Nat) (x1 : Nat) (x2 : Int32) (x3 : Int32) (x4 : Int32) (x5 : Int32) (y0 : Int32) (st : List Value) (h : AH) (Q : Option Value → AH → Prop), WP 67 134 [.ref x0, .ref x1, .int x2, .int x3, .int x4, .int x5] (.int y0 :: st) h Q ↔ ((0 ≤ y0 → WP 67 139 [.ref x0, .ref x1, .int x2, .int x3, .int x4, .int x5] (st) h Q) ∧ (¬ 0 ≤ y0 → WP 67 137 [.ref x0, .ref x1, .int x2, .int x3, .int x4, .int x5] (st) h Q))) ∧
  (∀ (x0 : Nat) (x1 : Nat) (x2 : Int32) (x3 : Int32) (x4 : Int32) (x5 : Int32) (st : List Value) (h : AH) (Q : Option Value → AH → Prop), WP 67 137 [.ref x0, .ref x1, .int x2, .int x3, .int x4, .int x5] (st) h Q ↔ WP 67 138 [.ref x0, .ref x1, .int x2, .int x3, .int x4, .int x5] (.int (0) :: st) h Q) ∧
  (∀ (x0 : Nat) (x1 : Nat) (x2 : Int32) (x3 : Int32) (x4 : Int32) (x5 : Int32) (y0 : Int32) (h : AH) (Q : Option Value → AH → Prop) (hz : y0 = 0 ∨ y0 = 1), WP 67 138 [.ref x0, .ref x1, .int x2, .int x3, .int x4, .int x5] ([.int y0]) h Q ↔ Q (some (.int y0)) h) ∧
  (∀ (x0 : Nat) (x1 : Nat) (x2 : Int32) (x3 : Int32) (x4 : Int32) (x5 : Int32) (st : List Value) (h : AH) (Q : Option Value → AH → Prop), WP 67 139 [.ref x0, .ref x1, .int x2, .int x3, .int x4, .int x5] (st) h Q ↔ WP 67 140 [.ref x0, .ref x1, .int x2, .int x3, .int x4, .int x5] (.ref x1 :: st) h Q) ∧
  (∀ (x0 : Nat) (x1 : Nat) (x2 : Int32) (x3 : Int32) (x4 : Int32) (x5 : Int32) (st : List Value) (h : AH) (Q : Option Value → AH → Prop), WP 67 140 [.ref x0, .ref x1, .int x2, .int x3, .int x4, .int x5] (st) h Q ↔ WP 67 141 [.ref x0, .ref x1, .int x2, .int x3, .int x4, .int x5] (.int x3 :: st) h Q) ∧
  (∀ (x0 : Nat) (x1 : Nat) (x2 : Int32) (x3 : Int32) (x4 : Int32) (x5 : Int32) (st : List Value) (h : AH) (Q : Option Value → AH → Prop), WP 67 141 [.ref x0, .ref x1, .int x2, .int x3, .int x4, .int x5] (st) h Q ↔ WP 67 143 [.ref x0, .ref x1, .int x2, .int x3, .int x4, .int x5] (.int x4 :: st) h Q) ∧
  (∀ (x0 : Nat) (x1 : Nat) (x2 : Int32) (x3 : Int32) (x4 : Int32) (x5 : Int32) (st : List Value) (h : AH) (Q : Option Value → AH → Prop), WP 67 143 [.ref x0, .ref x1, .int x2, .int x3, .int x4, .int x5] (st) h Q ↔ WP 67 145 [.ref x0, .ref x1, .int x2, .int x3, .int x4, .int x5] (.int x5 :: st) h Q) ∧
  (∀ (x0 : Nat) (x1 : Nat) (x2 : Int32) (x3 : Int32) (x4 : Int32) (x5 : Int32) (y3 : Nat) (y2 : Int32) (y1 : Int32) (y0 : Int32) (h : AH) (Q : Option Value → AH → Prop) (ht : hT h y3 = 4), WP 67 145 [.ref x0, .ref x1, .int x2, .int x3, .int x4, .int x5] ([.int y0, .int y1, .int y2, .ref y3]) h Q ↔ WPM 27 [.ref y3, .int y2, .int y1, .int y0] h (fun r h' => WP 67 148 [.ref x0, .ref x1, .int x2, .int x3, .int x4, .int x5] (r.toList ++ []) h' Q)) :=
  ⟨fun _ _ _ _ _ _ => WP_s (show ct 67 74 = some (.aload_n 0, 0, []) by decide +kernel) rfl,
  fun _ _ _ _ _ _ _ ht => WH_gR (show ct 67 75 = some (.getfield 12, 1, [7, 0, 2, 305]) by decide +kernel) ht,
  fun _ _ _ _ _ _ _ ht => WH_gI (show ct 67 78 = some (.getfield 70, 1, [10, 6, 0, 289]) by decide +kernel) (by decide) ht,
  fun _ _ _ _ _ _ _ => WP_s (show ct 67 81 = some (.istore_n 3, 0, []) by decide +kernel) rfl,
  fun _ _ _ _ _ _ _ => WP_s (show ct 67 82 = some (.aload_n 1, 0, []) by decide +kernel) rfl,
  fun _ _ _ _ _ _ _ => WP_s (show ct 67 83 = some (.iload_n 3, 0, []) by decide +kernel) rfl,
  fun _ _ _ _ _ _ _ _ ht => WC_1 (show ct 67 84 = some (.invokevirtual 73, 3, [26, 2, 1, 4, 0, 724, 725, 726]) by decide +kernel) (Nat.le_of_ble_eq_true rfl) (Nat.le_of_ble_eq_true rfl) rfl rfl ht,
  fun _ _ _ _ _ _ _ _ => WZ_lt (show ct 67 87 = some (.ifCond .lt 9, 0, [96]) by decide +kernel) (by decide),
  fun _ _ _ _ _ _ _ => WP_s (show ct 67 90 = some (.aload_n 0, 0, []) by decide +kernel) rfl,
  fun _ _ _ _ _ _ _ => WP_s (show ct 67 91 = some (.iconst 3, 0, []) by decide +kernel) rfl,
  fun _ _ _ _ _ _ _ _ ht => WC_1 (show ct 67 92 = some (.invokevirtual 30, 3, [63, 2, 1, 8, 0, 680, 682, 7]) by decide +kernel) (Nat.le_of_ble_eq_true rfl) (Nat.le_of_ble_eq_true rfl) rfl rfl ht,
  fun _ _ _ _ _ _ _ hz => WR_z (show ct 67 95 = some (.ireturn, 2, [1]) by decide +kernel) hz,
  fun _ _ _ _ _ _ _ => WP_s (show ct 67 96 = some (.aload_n 0, 0, []) by decide +kernel) rfl,
  fun _ _ _ _ _ _ _ _ ht => WH_gR (show ct 67 97 = some (.getfield 12, 1, [7, 0, 2, 305]) by decide +kernel) ht,
  fun _ _ _ _ _ _ _ ht => WC_1 (show ct 67 100 = some (.invokevirtual 46, 3, [95, 1, 1, 11, 0, 647, 648, 649]) by decide +kernel) (Nat.le_of_ble_eq_true rfl) (Nat.le_of_ble_eq_true rfl) rfl rfl ht,
  fun _ _ _ _ _ _ _ => WP_s (show ct 67 103 = some (.iload_n 2, 0, []) by decide +kernel) rfl,
  fun _ _ _ _ _ _ _ => WP_s (show ct 67 104 = some (.iconst 1, 0, []) by decide +kernel) rfl,
  fun _ _ _ _ _ _ _ _ _ => WI_ne (show ct 67 105 = some (.if_icmp .ne 11, 0, [116]) by decide +kernel) (by decide),
  fun _ _ _ _ _ _ _ => WP_s (show ct 67 108 = some (.aload_n 0, 0, []) by decide +kernel) rfl,
  fun _ _ _ _ _ _ _ => WP_s (show ct 67 109 = some (.aload_n 1, 0, []) by decide +kernel) rfl,
  fun _ _ _ _ _ _ _ _ ht => WC_1 (show ct 67 110 = some (.invokevirtual 77, 3, [68, 2, 1, 8, 0, 729, 731, 14]) by decide +kernel) (Nat.le_of_ble_eq_true rfl) (Nat.le_of_ble_eq_true rfl) rfl rfl ht,
  fun _ _ _ _ _ _ _ => WP_s (show ct 67 113 = some (.goto 4, 0, [117]) by decide +kernel) rfl,
  fun _ _ _ _ _ _ _ => WP_s (show ct 67 116 = some (.iconst 0, 0, []) by decide +kernel) rfl,
  fun _ _ _ _ _ _ _ _ => WP_s (show ct 67 117 = some (.istore 4, 0, []) by decide +kernel) rfl,
  fun _ _ _ _ _ _ _ _ => WP_s (show ct 67 119 = some (.iload 4, 0, []) by decide +kernel) rfl,
  fun _ _ _ _ _ _ _ _ _ => WZ_ge (show ct 67 121 = some (.ifCond .ge 5, 0, [126]) by decide +kernel) (by decide),
  fun _ _ _ _ _ _ _ _ => WP_s (show ct 67 124 = some (.iconst 0, 0, []) by decide +kernel) rfl,
  fun _ _ _ _ _ _ _ _ hz => WR_z (show ct 67 125 = some (.ireturn, 2, [1]) by decide +kernel) hz,
  fun _ _ _ _ _ _ _ _ => WP_s (show ct 67 126 = some (.aload_n 0, 0, []) by decide +kernel) rfl,
  fun _ _ _ _ _ _ _ _ ht => WC_1 (show ct 67 127 = some (.invokevirtual 81, 3, [69, 1, 1, 8, 0, 737, 739, 16]) by decide +kernel) (Nat.le_of_ble_eq_true rfl) (Nat.le_of_ble_eq_true rfl) rfl rfl ht,
  fun _ _ _ _ _ _ _ _ _ => WP_s (show ct 67 130 = some (.istore 5, 0, []) by decide +kernel) rfl,
  fun _ _ _ _ _ _ _ _ _ => WP_s (show ct 67 132 = some (.iload 5, 0, []) by decide +kernel) rfl,
  fun _ _ _ _ _ _ _ _ _ _ => WZ_ge (show ct 67 134 = some (.ifCond .ge 5, 0, [139]) by decide +kernel) (by decide),
  fun _ _ _ _ _ _ _ _ _ => WP_s (show ct 67 137 = some (.iconst 0, 0, []) by decide +kernel) rfl,
  fun _ _ _ _ _ _ _ _ _ hz => WR_z (show ct 67 138 = some (.ireturn, 2, [1]) by decide +kernel) hz,
  fun _ _ _ _ _ _ _ _ _ => WP_s (show ct 67 139 = some (.aload_n 1, 0, []) by decide +kernel) rfl,
  fun _ _ _ _ _ _ _ _ _ => WP_s (show ct 67 140 = some (.iload_n 3, 0, []) by decide +kernel) rfl,
  fun _ _ _ _ _ _ _ _ _ => WP_s (show ct 67 141 = some (.iload 4, 0, []) by decide +kernel) rfl,
  fun _ _ _ _ _ _ _ _ _ => WP_s (show ct 67 143 = some (.iload 5, 0, []) by decide +kernel) rfl,
  fun _ _ _ _ _ _ _ _ _ _ _ _ ht => WC_1 (show ct 67 145 = some (.invokevirtual 85, 3, [27, 4, 1, 4, 0, 741, 742, 743]) by decide +kernel) (Nat.le_of_ble_eq_true rfl) (Nat.le_of_ble_eq_true rfl) rfl rfl ht⟩
set_option maxRecDepth 10000 in
theorem w67_c : (∀ (x0 : Nat) (x1 : Nat) (x2 : Int32) (x3 : Int32) (x4 : Int32) (x5 : Int32) (st : List Value) (h : AH) (Q : Option Value → AH → Prop), WP 67 148 [.ref x0, .ref x1, .int x2, .int x3, .int x4, .int x5] (st) h Q ↔ WP 67 149 [.ref x0, .ref x1, .int x2, .int x3, .int x4, .int x5] (.int (1) :: st) h Q) ∧
  (∀ (x0 : Nat) (x1 : Nat) (x2 : Int32) (x3 : Int32) (x4 : Int32) (x5 : Int32) (y0 : Int32) (h : AH) (Q : Option Value → AH → Prop) (hz : y0 = 0 ∨ y0 = 1), WP 67 149 [.ref x0, .ref x1, .int x2, .int x3, .int x4, .int x5] ([.int y0]) h Q ↔ Q (some (.int y0)) h) :=
  ⟨fun _ _ _ _ _ _ _ _ _ => WP_s (show ct 67 148 = some (.iconst 1, 0, []) by decide +kernel) rfl,
  fun _ _ _ _ _ _ _ _ _ hz => WR_z (show ct 67 149 = some (.ireturn, 2, [1]) by decide +kernel) hz⟩
/-- all of 67 -/
def w67_n : Nat := 3
/-! 68: FewBowls$Reader.readParts(LFewBowls$Net;)I; loop heads [28] -/
theorem w68_28 : ∀ (x0 : Nat) (x1 : Nat) (x2 : Int32) (x3 : Int32) (x4 : Value) (st : List Value) (h : AH) (Q : Option Value → AH → Prop), WP 68 28 [.ref x0, .ref x1, .int x2, .int x3, x4] (st) h Q ↔ WP 68 29 [.ref x0, .ref x1, .int x2, .int x3, x4] (.int x3 :: st) h Q := fun _ _ _ _ _ _ _ _ => WP_s (show ct 68 28 = some (.iload_n 3, 0, []) by decide +kernel) rfl
set_option maxRecDepth 10000 in
theorem w68_a : (∀ (x0 : Nat) (x1 : Nat) (st : List Value) (h : AH) (Q : Option Value → AH → Prop), WP 68 0 [.ref x0, .ref x1, .retAddr 0, .retAddr 0, .retAddr 0] (st) h Q ↔ WP 68 1 [.ref x0, .ref x1, .retAddr 0, .retAddr 0, .retAddr 0] (.ref x0 :: st) h Q) ∧
  (∀ (x0 : Nat) (x1 : Nat) (y0 : Nat) (st : List Value) (h : AH) (Q : Option Value → AH → Prop) (ht : hT h y0 = 8), WP 68 1 [.ref x0, .ref x1, .retAddr 0, .retAddr 0, .retAddr 0] (.ref y0 :: st) h Q ↔ WP 68 4 [.ref x0, .ref x1, .retAddr 0, .retAddr 0, .retAddr 0] (.ref (hR h y0 0) :: st) h Q) ∧
  (∀ (x0 : Nat) (x1 : Nat) (y0 : Nat) (st : List Value) (h : AH) (Q : Option Value → AH → Prop) (ht : hT h y0 = 11), WP 68 4 [.ref x0, .ref x1, .retAddr 0, .retAddr 0, .retAddr 0] (.ref y0 :: st) h Q ↔ WP 68 7 [.ref x0, .ref x1, .retAddr 0, .retAddr 0, .retAddr 0] (.int (hI h y0 4) :: st) h Q) ∧
  (∀ (x0 : Nat) (x1 : Nat) (st : List Value) (h : AH) (Q : Option Value → AH → Prop), WP 68 7 [.ref x0, .ref x1, .retAddr 0, .retAddr 0, .retAddr 0] (st) h Q ↔ WP 68 8 [.ref x0, .ref x1, .retAddr 0, .retAddr 0, .retAddr 0] (.int (2) :: st) h Q) ∧
  (∀ (x0 : Nat) (x1 : Nat) (y0 : Int32) (y1 : Int32) (st : List Value) (h : AH) (Q : Option Value → AH → Prop), WP 68 8 [.ref x0, .ref x1, .retAddr 0, .retAddr 0, .retAddr 0] (.int y0 :: .int y1 :: st) h Q ↔ ((y1 = y0 → WP 68 17 [.ref x0, .ref x1, .retAddr 0, .retAddr 0, .retAddr 0] (st) h Q) ∧ (¬ y1 = y0 → WP 68 11 [.ref x0, .ref x1, .retAddr 0, .retAddr 0, .retAddr 0] (st) h Q))) ∧
  (∀ (x0 : Nat) (x1 : Nat) (st : List Value) (h : AH) (Q : Option Value → AH → Prop), WP 68 11 [.ref x0, .ref x1, .retAddr 0, .retAddr 0, .retAddr 0] (st) h Q ↔ WP 68 12 [.ref x0, .ref x1, .retAddr 0, .retAddr 0, .retAddr 0] (.ref x0 :: st) h Q) ∧
  (∀ (x0 : Nat) (x1 : Nat) (st : List Value) (h : AH) (Q : Option Value → AH → Prop), WP 68 12 [.ref x0, .ref x1, .retAddr 0, .retAddr 0, .retAddr 0] (st) h Q ↔ WP 68 13 [.ref x0, .ref x1, .retAddr 0, .retAddr 0, .retAddr 0] (.int (1) :: st) h Q) ∧
  (∀ (x0 : Nat) (x1 : Nat) (y1 : Nat) (y0 : Int32) (h : AH) (Q : Option Value → AH → Prop) (ht : hT h y1 = 8), WP 68 13 [.ref x0, .ref x1, .retAddr 0, .retAddr 0, .retAddr 0] ([.int y0, .ref y1]) h Q ↔ WPM 64 [.ref y1, .int y0] h (fun r h' => WP 68 16 [.ref x0, .ref x1, .retAddr 0, .retAddr 0, .retAddr 0] (r.toList ++ []) h' Q)) ∧
  (∀ (x0 : Nat) (x1 : Nat) (y0 : Int32) (h : AH) (Q : Option Value → AH → Prop), WP 68 16 [.ref x0, .ref x1, .retAddr 0, .retAddr 0, .retAddr 0] ([.int y0]) h Q ↔ Q (some (.int y0)) h) ∧
  (∀ (x0 : Nat) (x1 : Nat) (st : List Value) (h : AH) (Q : Option Value → AH → Prop), WP 68 17 [.ref x0, .ref x1, .retAddr 0, .retAddr 0, .retAddr 0] (st) h Q ↔ WP 68 18 [.ref x0, .ref x1, .retAddr 0, .retAddr 0, .retAddr 0] (.int (0) :: st) h Q) ∧
  (∀ (x0 : Nat) (x1 : Nat) (y0 : Int32) (st : List Value) (h : AH) (Q : Option Value → AH → Prop), WP 68 18 [.ref x0, .ref x1, .retAddr 0, .retAddr 0, .retAddr 0] (.int y0 :: st) h Q ↔ WP 68 19 [.ref x0, .ref x1, .int y0, .retAddr 0, .retAddr 0] (st) h Q) ∧
  (∀ (x0 : Nat) (x1 : Nat) (x2 : Int32) (st : List Value) (h : AH) (Q : Option Value → AH → Prop), WP 68 19 [.ref x0, .ref x1, .int x2, .retAddr 0, .retAddr 0] (st) h Q ↔ WP 68 20 [.ref x0, .ref x1, .int x2, .retAddr 0, .retAddr 0] (.ref x0 :: st) h Q) ∧
  (∀ (x0 : Nat) (x1 : Nat) (x2 : Int32) (y0 : Nat) (st : List Value) (h : AH) (Q : Option Value → AH → Prop) (ht : hT h y0 = 8), WP 68 20 [.ref x0, .ref x1, .int x2, .retAddr 0, .retAddr 0] (.ref y0 :: st) h Q ↔ WP 68 23 [.ref x0, .ref x1, .int x2, .retAddr 0, .retAddr 0] (.ref (hR h y0 0) :: st) h Q) ∧
  (∀ (x0 : Nat) (x1 : Nat) (x2 : Int32) (y0 : Nat) (h : AH) (Q : Option Value → AH → Prop) (ht : hT h y0 = 11), WP 68 23 [.ref x0, .ref x1, .int x2, .retAddr 0, .retAddr 0] ([.ref y0]) h Q ↔ WPM 95 [.ref y0] h (fun r h' => WP 68 26 [.ref x0, .ref x1, .int x2, .retAddr 0, .retAddr 0] (r.toList ++ []) h' Q)) ∧
  (∀ (x0 : Nat) (x1 : Nat) (x2 : Int32) (st : List Value) (h : AH) (Q : Option Value → AH → Prop), WP 68 26 [.ref x0, .ref x1, .int x2, .retAddr 0, .retAddr 0] (st) h Q ↔ WP 68 27 [.ref x0, .ref x1, .int x2, .retAddr 0, .retAddr 0] (.int (0) :: st) h Q) ∧
  (∀ (x0 : Nat) (x1 : Nat) (x2 : Int32) (y0 : Int32) (st : List Value) (h : AH) (Q : Option Value → AH → Prop), WP 68 27 [.ref x0, .ref x1, .int x2, .retAddr 0, .retAddr 0] (.int y0 :: st) h Q ↔ WP 68 28 [.ref x0, .ref x1, .int x2, .int y0, .retAddr 0] (st) h Q) ∧
  (∀ (x0 : Nat) (x1 : Nat) (x2 : Int32) (x3 : Int32) (x4 : Value) (st : List Value) (h : AH) (Q : Option Value → AH → Prop), WP 68 29 [.ref x0, .ref x1, .int x2, .int x3, x4] (st) h Q ↔ WP 68 31 [.ref x0, .ref x1, .int x2, .int x3, x4] (.int (6) :: st) h Q) ∧
  (∀ (x0 : Nat) (x1 : Nat) (x2 : Int32) (x3 : Int32) (x4 : Value) (y0 : Int32) (y1 : Int32) (st : List Value) (h : AH) (Q : Option Value → AH → Prop), WP 68 31 [.ref x0, .ref x1, .int x2, .int x3, x4] (.int y0 :: .int y1 :: st) h Q ↔ ((y0 < y1 → WP 68 112 [.ref x0, .ref x1, .int x2, .int x3, x4] (st) h Q) ∧ (¬ y0 < y1 → WP 68 34 [.ref x0, .ref x1, .int x2, .int x3, x4] (st) h Q))) ∧
  (∀ (x0 : Nat) (x1 : Nat) (x2 : Int32) (x3 : Int32) (x4 : Value) (st : List Value) (h : AH) (Q : Option Value → AH → Prop), WP 68 34 [.ref x0, .ref x1, .int x2, .int x3, x4] (st) h Q ↔ WP 68 35 [.ref x0, .ref x1, .int x2, .int x3, x4] (.ref x0 :: st) h Q) ∧
  (∀ (x0 : Nat) (x1 : Nat) (x2 : Int32) (x3 : Int32) (x4 : Value) (y0 : Nat) (st : List Value) (h : AH) (Q : Option Value → AH → Prop) (ht : hT h y0 = 8), WP 68 35 [.ref x0, .ref x1, .int x2, .int x3, x4] (.ref y0 :: st) h Q ↔ WP 68 38 [.ref x0, .ref x1, .int x2, .int x3, x4] (.ref (hR h y0 0) :: st) h Q) ∧
  (∀ (x0 : Nat) (x1 : Nat) (x2 : Int32) (x3 : Int32) (x4 : Value) (y0 : Nat) (st : List Value) (h : AH) (Q : Option Value → AH → Prop) (ht : hT h y0 = 11), WP 68 38 [.ref x0, .ref x1, .int x2, .int x3, x4] (.ref y0 :: st) h Q ↔ WP 68 41 [.ref x0, .ref x1, .int x2, .int x3, x4] (.int (hI h y0 4) :: st) h Q) ∧
  (∀ (x0 : Nat) (x1 : Nat) (x2 : Int32) (x3 : Int32) (x4 : Value) (st : List Value) (h : AH) (Q : Option Value → AH → Prop), WP 68 41 [.ref x0, .ref x1, .int x2, .int x3, x4] (st) h Q ↔ WP 68 43 [.ref x0, .ref x1, .int x2, .int x3, x4] (.int (7) :: st) h Q) ∧
  (∀ (x0 : Nat) (x1 : Nat) (x2 : Int32) (x3 : Int32) (x4 : Value) (y0 : Int32) (y1 : Int32) (st : List Value) (h : AH) (Q : Option Value → AH → Prop), WP 68 43 [.ref x0, .ref x1, .int x2, .int x3, x4] (.int y0 :: .int y1 :: st) h Q ↔ ((¬ y1 = y0 → WP 68 112 [.ref x0, .ref x1, .int x2, .int x3, x4] (st) h Q) ∧ (y1 = y0 → WP 68 46 [.ref x0, .ref x1, .int x2, .int x3, x4] (st) h Q))) ∧
  (∀ (x0 : Nat) (x1 : Nat) (x2 : Int32) (x3 : Int32) (x4 : Value) (st : List Value) (h : AH) (Q : Option Value → AH → Prop), WP 68 46 [.ref x0, .ref x1, .int x2, .int x3, x4] (st) h Q ↔ WP 68 47 [.ref x0, .ref x1, .int x2, .int x3, x4] (.ref x1 :: st) h Q) ∧
  (∀ (x0 : Nat) (x1 : Nat) (x2 : Int32) (x3 : Int32) (x4 : Value) (st : List Value) (h : AH) (Q : Option Value → AH → Prop), WP 68 47 [.ref x0, .ref x1, .int x2, .int x3, x4] (st) h Q ↔ WP 68 48 [.ref x0, .ref x1, .int x2, .int x3, x4] (.ref x0 :: st) h Q) ∧
  (∀ (x0 : Nat) (x1 : Nat) (x2 : Int32) (x3 : Int32) (x4 : Value) (y0 : Nat) (st : List Value) (h : AH) (Q : Option Value → AH → Prop) (ht : hT h y0 = 8), WP 68 48 [.ref x0, .ref x1, .int x2, .int x3, x4] (.ref y0 :: st) h Q ↔ WP 68 51 [.ref x0, .ref x1, .int x2, .int x3, x4] (.ref (hR h y0 0) :: st) h Q) ∧
  (∀ (x0 : Nat) (x1 : Nat) (x2 : Int32) (x3 : Int32) (x4 : Value) (y0 : Nat) (st : List Value) (h : AH) (Q : Option Value → AH → Prop) (ht : hT h y0 = 11), WP 68 51 [.ref x0, .ref x1, .int x2, .int x3, x4] (.ref y0 :: st) h Q ↔ WP 68 54 [.ref x0, .ref x1, .int x2, .int x3, x4] (.int (hI h y0 6) :: st) h Q) ∧
  (∀ (x0 : Nat) (x1 : Nat) (x2 : Int32) (x3 : Int32) (x4 : Value) (y1 : Nat) (y0 : Int32) (h : AH) (Q : Option Value → AH → Prop) (ht : hT h y1 = 4), WP 68 54 [.ref x0, .ref x1, .int x2, .int x3, x4] ([.int y0, .ref y1]) h Q ↔ WPM 26 [.ref y1, .int y0] h (fun r h' => WP 68 57 [.ref x0, .ref x1, .int x2, .int x3, x4] (r.toList ++ []) h' Q)) ∧
  (∀ (x0 : Nat) (x1 : Nat) (x2 : Int32) (x3 : Int32) (x4 : Value) (y0 : Int32) (st : List Value) (h : AH) (Q : Option Value → AH → Prop), WP 68 57 [.ref x0, .ref x1, .int x2, .int x3, x4] (.int y0 :: st) h Q ↔ WP 68 59 [.ref x0, .ref x1, .int x2, .int x3, .int y0] (st) h Q) ∧
  (∀ (x0 : Nat) (x1 : Nat) (x2 : Int32) (x3 : Int32) (x4 : Int32) (st : List Value) (h : AH) (Q : Option Value → AH → Prop), WP 68 59 [.ref x0, .ref x1, .int x2, .int x3, .int x4] (st) h Q ↔ WP 68 61 [.ref x0, .ref x1, .int x2, .int x3, .int x4] (.int x4 :: st) h Q) ∧
  (∀ (x0 : Nat) (x1 : Nat) (x2 : Int32) (x3 : Int32) (x4 : Int32) (y0 : Int32) (st : List Value) (h : AH) (Q : Option Value → AH → Prop), WP 68 61 [.ref x0, .ref x1, .int x2, .int x3, .int x4] (.int y0 :: st) h Q ↔ ((y0 < 0 → WP 68 74 [.ref x0, .ref x1, .int x2, .int x3, .int x4] (st) h Q) ∧ (¬ y0 < 0 → WP 68 64 [.ref x0, .ref x1, .int x2, .int x3, .int x4] (st) h Q))) ∧
  (∀ (x0 : Nat) (x1 : Nat) (x2 : Int32) (x3 : Int32) (x4 : Int32) (st : List Value) (h : AH) (Q : Option Value → AH → Prop), WP 68 64 [.ref x0, .ref x1, .int x2, .int x3, .int x4] (st) h Q ↔ WP 68 65 [.ref x0, .ref x1, .int x2, .int x3, .int x4] (.int x2 :: st) h Q) ∧
  (∀ (x0 : Nat) (x1 : Nat) (x2 : Int32) (x3 : Int32) (x4 : Int32) (st : List Value) (h : AH) (Q : Option Value → AH → Prop), WP 68 65 [.ref x0, .ref x1, .int x2, .int x3, .int x4] (st) h Q ↔ WP 68 67 [.ref x0, .ref x1, .int x2, .int x3, .int x4] (.int x4 :: st) h Q) ∧
  (∀ (x0 : Nat) (x1 : Nat) (x2 : Int32) (x3 : Int32) (x4 : Int32) (y1 : Int32) (y0 : Int32) (h : AH) (Q : Option Value → AH → Prop), WP 68 67 [.ref x0, .ref x1, .int x2, .int x3, .int x4] ([.int y0, .int y1]) h Q ↔ WPM 140 [.int y1, .int y0] h (fun r h' => WP 68 70 [.ref x0, .ref x1, .int x2, .int x3, .int x4] (r.toList ++ []) h' Q)) ∧
  (∀ (x0 : Nat) (x1 : Nat) (x2 : Int32) (x3 : Int32) (x4 : Int32) (st : List Value) (h : AH) (Q : Option Value → AH → Prop), WP 68 70 [.ref x0, .ref x1, .int x2, .int x3, .int x4] (st) h Q ↔ WP 68 71 [.ref x0, .ref x1, .int x2, .int x3, .int x4] (.int (1) :: st) h Q) ∧
  (∀ (x0 : Nat) (x1 : Nat) (x2 : Int32) (x3 : Int32) (x4 : Int32) (y0 : Int32) (y1 : Int32) (st : List Value) (h : AH) (Q : Option Value → AH → Prop), WP 68 71 [.ref x0, .ref x1, .int x2, .int x3, .int x4] (.int y0 :: .int y1 :: st) h Q ↔ ((¬ y1 = y0 → WP 68 80 [.ref x0, .ref x1, .int x2, .int x3, .int x4] (st) h Q) ∧ (y1 = y0 → WP 68 74 [.ref x0, .ref x1, .int x2, .int x3, .int x4] (st) h Q))) ∧
  (∀ (x0 : Nat) (x1 : Nat) (x2 : Int32) (x3 : Int32) (x4 : Int32) (st : List Value) (h : AH) (Q : Option Value → AH → Prop), WP 68 74 [.ref x0, .ref x1, .int x2, .int x3, .int x4] (st) h Q ↔ WP 68 75 [.ref x0, .ref x1, .int x2, .int x3, .int x4] (.ref x0 :: st) h Q) ∧
  (∀ (x0 : Nat) (x1 : Nat) (x2 : Int32) (x3 : Int32) (x4 : Int32) (st : List Value) (h : AH) (Q : Option Value → AH → Prop), WP 68 75 [.ref x0, .ref x1, .int x2, .int x3, .int x4] (st) h Q ↔ WP 68 76 [.ref x0, .ref x1, .int x2, .int x3, .int x4] (.int (3) :: st) h Q) ∧
  (∀ (x0 : Nat) (x1 : Nat) (x2 : Int32) (x3 : Int32) (x4 : Int32) (y1 : Nat) (y0 : Int32) (h : AH) (Q : Option Value → AH → Prop) (ht : hT h y1 = 8), WP 68 76 [.ref x0, .ref x1, .int x2, .int x3, .int x4] ([.int y0, .ref y1]) h Q ↔ WPM 64 [.ref y1, .int y0] h (fun r h' => WP 68 79 [.ref x0, .ref x1, .int x2, .int x3, .int x4] (r.toList ++ []) h' Q)) ∧
  (∀ (x0 : Nat) (x1 : Nat) (x2 : Int32) (x3 : Int32) (x4 : Int32) (y0 : Int32) (h : AH) (Q : Option Value → AH → Prop), WP 68 79 [.ref x0, .ref x1, .int x2, .int x3, .int x4] ([.int y0]) h Q ↔ Q (some (.int y0)) h) :=
  ⟨fun _ _ _ _ _ => WP_s (show ct 68 0 = some (.aload_n 0, 0, []) by decide +kernel) rfl,
  fun _ _ _ _ _ _ ht => WH_gR (show ct 68 1 = some (.getfield 12, 1, [7, 0, 2, 305]) by decide +kernel) ht,
  fun _ _ _ _ _ _ ht => WH_gI (show ct 68 4 = some (.getfield 49, 1, [10, 4, 0, 285]) by decide +kernel) (by decide) ht,
  fun _ _ _ _ _ => WP_s (show ct 68 7 = some (.iconst 2, 0, []) by decide +kernel) rfl,
  fun _ _ _ _ _ _ _ => WI_eq (show ct 68 8 = some (.if_icmp .eq 9, 0, [17]) by decide +kernel) (by decide),
  fun _ _ _ _ _ => WP_s (show ct 68 11 = some (.aload_n 0, 0, []) by decide +kernel) rfl,
  fun _ _ _ _ _ => WP_s (show ct 68 12 = some (.iconst 1, 0, []) by decide +kernel) rfl,
  fun _ _ _ _ _ _ ht => WC_1 (show ct 68 13 = some (.invokevirtual 89, 3, [64, 2, 1, 8, 0, 733, 735, 15]) by decide +kernel) (Nat.le_of_ble_eq_true rfl) (Nat.le_of_ble_eq_true rfl) rfl rfl ht,
  fun _ _ _ _ _ => WR_i (show ct 68 16 = some (.ireturn, 2, [0]) by decide +kernel),
  fun _ _ _ _ _ => WP_s (show ct 68 17 = some (.iconst 0, 0, []) by decide +kernel) rfl,
  fun _ _ _ _ _ _ => WP_s (show ct 68 18 = some (.istore_n 2, 0, []) by decide +kernel) rfl,
  fun _ _ _ _ _ _ => WP_s (show ct 68 19 = some (.aload_n 0, 0, []) by decide +kernel) rfl,
  fun _ _ _ _ _ _ _ ht => WH_gR (show ct 68 20 = some (.getfield 12, 1, [7, 0, 2, 305]) by decide +kernel) ht,
  fun _ _ _ _ _ _ ht => WC_1 (show ct 68 23 = some (.invokevirtual 46, 3, [95, 1, 1, 11, 0, 647, 648, 649]) by decide +kernel) (Nat.le_of_ble_eq_true rfl) (Nat.le_of_ble_eq_true rfl) rfl rfl ht,
  fun _ _ _ _ _ _ => WP_s (show ct 68 26 = some (.iconst 0, 0, []) by decide +kernel) rfl,
  fun _ _ _ _ _ _ _ => WP_s (show ct 68 27 = some (.istore_n 3, 0, []) by decide +kernel) rfl,
  fun _ _ _ _ _ _ _ _ => WP_s (show ct 68 29 = some (.bipush 6, 0, []) by decide +kernel) rfl,
  fun _ _ _ _ _ _ _ _ _ _ => WI_gt (show ct 68 31 = some (.if_icmp .gt 81, 0, [112]) by decide +kernel) (by decide),
  fun _ _ _ _ _ _ _ _ => WP_s (show ct 68 34 = some (.aload_n 0, 0, []) by decide +kernel) rfl,
  fun _ _ _ _ _ _ _ _ _ ht => WH_gR (show ct 68 35 = some (.getfield 12, 1, [7, 0, 2, 305]) by decide +kernel) ht,
  fun _ _ _ _ _ _ _ _ _ ht => WH_gI (show ct 68 38 = some (.getfield 49, 1, [10, 4, 0, 285]) by decide +kernel) (by decide) ht,
  fun _ _ _ _ _ _ _ _ => WP_s (show ct 68 41 = some (.bipush 7, 0, []) by decide +kernel) rfl,
  fun _ _ _ _ _ _ _ _ _ _ => WI_ne (show ct 68 43 = some (.if_icmp .ne 69, 0, [112]) by decide +kernel) (by decide),
  fun _ _ _ _ _ _ _ _ => WP_s (show ct 68 46 = some (.aload_n 1, 0, []) by decide +kernel) rfl,
  fun _ _ _ _ _ _ _ _ => WP_s (show ct 68 47 = some (.aload_n 0, 0, []) by decide +kernel) rfl,
  fun _ _ _ _ _ _ _ _ _ ht => WH_gR (show ct 68 48 = some (.getfield 12, 1, [7, 0, 2, 305]) by decide +kernel) ht,
  fun _ _ _ _ _ _ _ _ _ ht => WH_gI (show ct 68 51 = some (.getfield 70, 1, [10, 6, 0, 289]) by decide +kernel) (by decide) ht,
  fun _ _ _ _ _ _ _ _ _ ht => WC_1 (show ct 68 54 = some (.invokevirtual 73, 3, [26, 2, 1, 4, 0, 724, 725, 726]) by decide +kernel) (Nat.le_of_ble_eq_true rfl) (Nat.le_of_ble_eq_true rfl) rfl rfl ht,
  fun _ _ _ _ _ _ _ _ _ => WP_s (show ct 68 57 = some (.istore 4, 0, []) by decide +kernel) rfl,
  fun _ _ _ _ _ _ _ _ => WP_s (show ct 68 59 = some (.iload 4, 0, []) by decide +kernel) rfl,
  fun _ _ _ _ _ _ _ _ _ => WZ_lt (show ct 68 61 = some (.ifCond .lt 13, 0, [74]) by decide +kernel) (by decide),
  fun _ _ _ _ _ _ _ _ => WP_s (show ct 68 64 = some (.iload_n 2, 0, []) by decide +kernel) rfl,
  fun _ _ _ _ _ _ _ _ => WP_s (show ct 68 65 = some (.iload 4, 0, []) by decide +kernel) rfl,
  fun _ _ _ _ _ _ _ _ _ => WC_0 (show ct 68 67 = some (.invokestatic 92, 3, [140, 2, 0, 0, 1, 728, 693, 0]) by decide +kernel) (Nat.le_of_ble_eq_true rfl) (Nat.le_of_ble_eq_true rfl) rfl rfl,
  fun _ _ _ _ _ _ _ _ => WP_s (show ct 68 70 = some (.iconst 1, 0, []) by decide +kernel) rfl,
  fun _ _ _ _ _ _ _ _ _ _ => WI_ne (show ct 68 71 = some (.if_icmp .ne 9, 0, [80]) by decide +kernel) (by decide),
  fun _ _ _ _ _ _ _ _ => WP_s (show ct 68 74 = some (.aload_n 0, 0, []) by decide +kernel) rfl,
  fun _ _ _ _ _ _ _ _ => WP_s (show ct 68 75 = some (.iconst 3, 0, []) by decide +kernel) rfl,
  fun _ _ _ _ _ _ _ _ _ ht => WC_1 (show ct 68 76 = some (.invokevirtual 89, 3, [64, 2, 1, 8, 0, 733, 735, 15]) by decide +kernel) (Nat.le_of_ble_eq_true rfl) (Nat.le_of_ble_eq_true rfl) rfl rfl ht,
  fun _ _ _ _ _ _ _ _ => WR_i (show ct 68 79 = some (.ireturn, 2, [0]) by decide +kernel)⟩
set_option maxRecDepth 10000 in
theorem w68_b : (∀ (x0 : Nat) (x1 : Nat) (x2 : Int32) (x3 : Int32) (x4 : Int32) (st : List Value) (h : AH) (Q : Option Value → AH → Prop), WP 68 80 [.ref x0, .ref x1, .int x2, .int x3, .int x4] (st) h Q ↔ WP 68 81 [.ref x0, .ref x1, .int x2, .int x3, .int x4] (.int x3 :: st) h Q) ∧
  (∀ (x0 : Nat) (x1 : Nat) (x2 : Int32) (x3 : Int32) (x4 : Int32) (st : List Value) (h : AH) (Q : Option Value → AH → Prop), WP 68 81 [.ref x0, .ref x1, .int x2, .int x3, .int x4] (st) h Q ↔ WP 68 83 [.ref x0, .ref x1, .int x2, .int x3, .int x4] (.int (6) :: st) h Q) ∧
  (∀ (x0 : Nat) (x1 : Nat) (x2 : Int32) (x3 : Int32) (x4 : Int32) (y0 : Int32) (y1 : Int32) (st : List Value) (h : AH) (Q : Option Value → AH → Prop), WP 68 83 [.ref x0, .ref x1, .int x2, .int x3, .int x4] (.int y0 :: .int y1 :: st) h Q ↔ ((¬ y1 = y0 → WP 68 92 [.ref x0, .ref x1, .int x2, .int x3, .int x4] (st) h Q) ∧ (y1 = y0 → WP 68 86 [.ref x0, .ref x1, .int x2, .int x3, .int x4] (st) h Q))) ∧
  (∀ (x0 : Nat) (x1 : Nat) (x2 : Int32) (x3 : Int32) (x4 : Int32) (st : List Value) (h : AH) (Q : Option Value → AH → Prop), WP 68 86 [.ref x0, .ref x1, .int x2, .int x3, .int x4] (st) h Q ↔ WP 68 87 [.ref x0, .ref x1, .int x2, .int x3, .int x4] (.ref x0 :: st) h Q) ∧
  (∀ (x0 : Nat) (x1 : Nat) (x2 : Int32) (x3 : Int32) (x4 : Int32) (st : List Value) (h : AH) (Q : Option Value → AH → Prop), WP 68 87 [.ref x0, .ref x1, .int x2, .int x3, .int x4] (st) h Q ↔ WP 68 88 [.ref x0, .ref x1, .int x2, .int x3, .int x4] (.int (4) :: st) h Q) ∧
  (∀ (x0 : Nat) (x1 : Nat) (x2 : Int32) (x3 : Int32) (x4 : Int32) (y1 : Nat) (y0 : Int32) (h : AH) (Q : Option Value → AH → Prop) (ht : hT h y1 = 8), WP 68 88 [.ref x0, .ref x1, .int x2, .int x3, .int x4] ([.int y0, .ref y1]) h Q ↔ WPM 64 [.ref y1, .int y0] h (fun r h' => WP 68 91 [.ref x0, .ref x1, .int x2, .int x3, .int x4] (r.toList ++ []) h' Q)) ∧
  (∀ (x0 : Nat) (x1 : Nat) (x2 : Int32) (x3 : Int32) (x4 : Int32) (y0 : Int32) (h : AH) (Q : Option Value → AH → Prop), WP 68 91 [.ref x0, .ref x1, .int x2, .int x3, .int x4] ([.int y0]) h Q ↔ Q (some (.int y0)) h) ∧
  (∀ (x0 : Nat) (x1 : Nat) (x2 : Int32) (x3 : Int32) (x4 : Int32) (st : List Value) (h : AH) (Q : Option Value → AH → Prop), WP 68 92 [.ref x0, .ref x1, .int x2, .int x3, .int x4] (st) h Q ↔ WP 68 93 [.ref x0, .ref x1, .int x2, .int x3, .int x4] (.int x2 :: st) h Q) ∧
  (∀ (x0 : Nat) (x1 : Nat) (x2 : Int32) (x3 : Int32) (x4 : Int32) (st : List Value) (h : AH) (Q : Option Value → AH → Prop), WP 68 93 [.ref x0, .ref x1, .int x2, .int x3, .int x4] (st) h Q ↔ WP 68 94 [.ref x0, .ref x1, .int x2, .int x3, .int x4] (.int (1) :: st) h Q) ∧
  (∀ (x0 : Nat) (x1 : Nat) (x2 : Int32) (x3 : Int32) (x4 : Int32) (st : List Value) (h : AH) (Q : Option Value → AH → Prop), WP 68 94 [.ref x0, .ref x1, .int x2, .int x3, .int x4] (st) h Q ↔ WP 68 96 [.ref x0, .ref x1, .int x2, .int x3, .int x4] (.int x4 :: st) h Q) ∧
  (∀ (x0 : Nat) (x1 : Nat) (x2 : Int32) (x3 : Int32) (x4 : Int32) (y0 : Int32) (y1 : Int32) (st : List Value) (h : AH) (Q : Option Value → AH → Prop), WP 68 96 [.ref x0, .ref x1, .int x2, .int x3, .int x4] (.int y0 :: .int y1 :: st) h Q ↔ WP 68 97 [.ref x0, .ref x1, .int x2, .int x3, .int x4] (.int (y1 <<< (y0 &&& 31)) :: st) h Q) ∧
  (∀ (x0 : Nat) (x1 : Nat) (x2 : Int32) (x3 : Int32) (x4 : Int32) (y0 : Int32) (y1 : Int32) (st : List Value) (h : AH) (Q : Option Value → AH → Prop), WP 68 97 [.ref x0, .ref x1, .int x2, .int x3, .int x4] (.int y0 :: .int y1 :: st) h Q ↔ WP 68 98 [.ref x0, .ref x1, .int x2, .int x3, .int x4] (.int (y1 ||| y0) :: st) h Q) ∧
  (∀ (x0 : Nat) (x1 : Nat) (x2 : Int32) (x3 : Int32) (x4 : Int32) (y0 : Int32) (st : List Value) (h : AH) (Q : Option Value → AH → Prop), WP 68 98 [.ref x0, .ref x1, .int x2, .int x3, .int x4] (.int y0 :: st) h Q ↔ WP 68 99 [.ref x0, .ref x1, .int y0, .int x3, .int x4] (st) h Q) ∧
  (∀ (x0 : Nat) (x1 : Nat) (x2 : Int32) (x3 : Int32) (x4 : Int32) (st : List Value) (h : AH) (Q : Option Value → AH → Prop), WP 68 99 [.ref x0, .ref x1, .int x2, .int x3, .int x4] (st) h Q ↔ WP 68 100 [.ref x0, .ref x1, .int x2, .int x3, .int x4] (.ref x0 :: st) h Q) ∧
  (∀ (x0 : Nat) (x1 : Nat) (x2 : Int32) (x3 : Int32) (x4 : Int32) (y0 : Nat) (st : List Value) (h : AH) (Q : Option Value → AH → Prop) (ht : hT h y0 = 8), WP 68 100 [.ref x0, .ref x1, .int x2, .int x3, .int x4] (.ref y0 :: st) h Q ↔ WP 68 103 [.ref x0, .ref x1, .int x2, .int x3, .int x4] (.ref (hR h y0 0) :: st) h Q) ∧
  (∀ (x0 : Nat) (x1 : Nat) (x2 : Int32) (x3 : Int32) (x4 : Int32) (y0 : Nat) (h : AH) (Q : Option Value → AH → Prop) (ht : hT h y0 = 11), WP 68 103 [.ref x0, .ref x1, .int x2, .int x3, .int x4] ([.ref y0]) h Q ↔ WPM 95 [.ref y0] h (fun r h' => WP 68 106 [.ref x0, .ref x1, .int x2, .int x3, .int x4] (r.toList ++ []) h' Q)) ∧
  (∀ (x0 : Nat) (x1 : Nat) (x2 : Int32) (x3 : Int32) (x4 : Int32) (st : List Value) (h : AH) (Q : Option Value → AH → Prop), WP 68 106 [.ref x0, .ref x1, .int x2, .int x3, .int x4] (st) h Q ↔ WP 68 109 [.ref x0, .ref x1, .int x2, .int (x3 + (1)), .int x4] (st) h Q) ∧
  (∀ (x0 : Nat) (x1 : Nat) (x2 : Int32) (x3 : Int32) (x4 : Int32) (st : List Value) (h : AH) (Q : Option Value → AH → Prop), WP 68 109 [.ref x0, .ref x1, .int x2, .int x3, .int x4] (st) h Q ↔ WP 68 28 [.ref x0, .ref x1, .int x2, .int x3, .int x4] (st) h Q) ∧
  (∀ (x0 : Nat) (x1 : Nat) (x2 : Int32) (x3 : Int32) (x4 : Value) (st : List Value) (h : AH) (Q : Option Value → AH → Prop), WP 68 112 [.ref x0, .ref x1, .int x2, .int x3, x4] (st) h Q ↔ WP 68 113 [.ref x0, .ref x1, .int x2, .int x3, x4] (.int x2 :: st) h Q) ∧
  (∀ (x0 : Nat) (x1 : Nat) (x2 : Int32) (x3 : Int32) (x4 : Value) (y0 : Int32) (st : List Value) (h : AH) (Q : Option Value → AH → Prop), WP 68 113 [.ref x0, .ref x1, .int x2, .int x3, x4] (.int y0 :: st) h Q ↔ ((¬ y0 = 0 → WP 68 122 [.ref x0, .ref x1, .int x2, .int x3, x4] (st) h Q) ∧ (y0 = 0 → WP 68 116 [.ref x0, .ref x1, .int x2, .int x3, x4] (st) h Q))) ∧
  (∀ (x0 : Nat) (x1 : Nat) (x2 : Int32) (x3 : Int32) (x4 : Value) (st : List Value) (h : AH) (Q : Option Value → AH → Prop), WP 68 116 [.ref x0, .ref x1, .int x2, .int x3, x4] (st) h Q ↔ WP 68 117 [.ref x0, .ref x1, .int x2, .int x3, x4] (.ref x0 :: st) h Q) ∧
  (∀ (x0 : Nat) (x1 : Nat) (x2 : Int32) (x3 : Int32) (x4 : Value) (st : List Value) (h : AH) (Q : Option Value → AH → Prop), WP 68 117 [.ref x0, .ref x1, .int x2, .int x3, x4] (st) h Q ↔ WP 68 118 [.ref x0, .ref x1, .int x2, .int x3, x4] (.int (1) :: st) h Q) ∧
  (∀ (x0 : Nat) (x1 : Nat) (x2 : Int32) (x3 : Int32) (x4 : Value) (y1 : Nat) (y0 : Int32) (h : AH) (Q : Option Value → AH → Prop) (ht : hT h y1 = 8), WP 68 118 [.ref x0, .ref x1, .int x2, .int x3, x4] ([.int y0, .ref y1]) h Q ↔ WPM 64 [.ref y1, .int y0] h (fun r h' => WP 68 121 [.ref x0, .ref x1, .int x2, .int x3, x4] (r.toList ++ []) h' Q)) ∧
  (∀ (x0 : Nat) (x1 : Nat) (x2 : Int32) (x3 : Int32) (x4 : Value) (y0 : Int32) (h : AH) (Q : Option Value → AH → Prop), WP 68 121 [.ref x0, .ref x1, .int x2, .int x3, x4] ([.int y0]) h Q ↔ Q (some (.int y0)) h) ∧
  (∀ (x0 : Nat) (x1 : Nat) (x2 : Int32) (x3 : Int32) (x4 : Value) (st : List Value) (h : AH) (Q : Option Value → AH → Prop), WP 68 122 [.ref x0, .ref x1, .int x2, .int x3, x4] (st) h Q ↔ WP 68 123 [.ref x0, .ref x1, .int x2, .int x3, x4] (.int x2 :: st) h Q) ∧
  (∀ (x0 : Nat) (x1 : Nat) (x2 : Int32) (x3 : Int32) (x4 : Value) (y0 : Int32) (h : AH) (Q : Option Value → AH → Prop), WP 68 123 [.ref x0, .ref x1, .int x2, .int x3, x4] ([.int y0]) h Q ↔ Q (some (.int y0)) h) :=
  ⟨fun _ _ _ _ _ _ _ _ => WP_s (show ct 68 80 = some (.iload_n 3, 0, []) by decide +kernel) rfl,
  fun _ _ _ _ _ _ _ _ => WP_s (show ct 68 81 = some (.bipush 6, 0, []) by decide +kernel) rfl,
  fun _ _ _ _ _ _ _ _ _ _ => WI_ne (show ct 68 83 = some (.if_icmp .ne 9, 0, [92]) by decide +kernel) (by decide),
  fun _ _ _ _ _ _ _ _ => WP_s (show ct 68 86 = some (.aload_n 0, 0, []) by decide +kernel) rfl,
  fun _ _ _ _ _ _ _ _ => WP_s (show ct 68 87 = some (.iconst 4, 0, []) by decide +kernel) rfl,
  fun _ _ _ _ _ _ _ _ _ ht => WC_1 (show ct 68 88 = some (.invokevirtual 89, 3, [64, 2, 1, 8, 0, 733, 735, 15]) by decide +kernel) (Nat.le_of_ble_eq_true rfl) (Nat.le_of_ble_eq_true rfl) rfl rfl ht,
  fun _ _ _ _ _ _ _ _ => WR_i (show ct 68 91 = some (.ireturn, 2, [0]) by decide +kernel),
  fun _ _ _ _ _ _ _ _ => WP_s (show ct 68 92 = some (.iload_n 2, 0, []) by decide +kernel) rfl,
  fun _ _ _ _ _ _ _ _ => WP_s (show ct 68 93 = some (.iconst 1, 0, []) by decide +kernel) rfl,
  fun _ _ _ _ _ _ _ _ => WP_s (show ct 68 94 = some (.iload 4, 0, []) by decide +kernel) rfl,
  fun _ _ _ _ _ _ _ _ _ _ => WP_s (show ct 68 96 = some (.ishl, 0, []) by decide +kernel) rfl,
  fun _ _ _ _ _ _ _ _ _ _ => WP_s (show ct 68 97 = some (.ior, 0, []) by decide +kernel) rfl,
  fun _ _ _ _ _ _ _ _ _ => WP_s (show ct 68 98 = some (.istore_n 2, 0, []) by decide +kernel) rfl,
  fun _ _ _ _ _ _ _ _ => WP_s (show ct 68 99 = some (.aload_n 0, 0, []) by decide +kernel) rfl,
  fun _ _ _ _ _ _ _ _ _ ht => WH_gR (show ct 68 100 = some (.getfield 12, 1, [7, 0, 2, 305]) by decide +kernel) ht,
  fun _ _ _ _ _ _ _ _ ht => WC_1 (show ct 68 103 = some (.invokevirtual 46, 3, [95, 1, 1, 11, 0, 647, 648, 649]) by decide +kernel) (Nat.le_of_ble_eq_true rfl) (Nat.le_of_ble_eq_true rfl) rfl rfl ht,
  fun _ _ _ _ _ _ _ _ => WP_s (show ct 68 106 = some (.iinc 3 1, 0, []) by decide +kernel) rfl,
  fun _ _ _ _ _ _ _ _ => WP_s (show ct 68 109 = some (.goto (-81), 0, [28]) by decide +kernel) rfl,
  fun _ _ _ _ _ _ _ _ => WP_s (show ct 68 112 = some (.iload_n 2, 0, []) by decide +kernel) rfl,
  fun _ _ _ _ _ _ _ _ _ => WZ_ne (show ct 68 113 = some (.ifCond .ne 9, 0, [122]) by decide +kernel) (by decide),
  fun _ _ _ _ _ _ _ _ => WP_s (show ct 68 116 = some (.aload_n 0, 0, []) by decide +kernel) rfl,
  fun _ _ _ _ _ _ _ _ => WP_s (show ct 68 117 = some (.iconst 1, 0, []) by decide +kernel) rfl,
  fun _ _ _ _ _ _ _ _ _ ht => WC_1 (show ct 68 118 = some (.invokevirtual 89, 3, [64, 2, 1, 8, 0, 733, 735, 15]) by decide +kernel) (Nat.le_of_ble_eq_true rfl) (Nat.le_of_ble_eq_true rfl) rfl rfl ht,
  fun _ _ _ _ _ _ _ _ => WR_i (show ct 68 121 = some (.ireturn, 2, [0]) by decide +kernel),
  fun _ _ _ _ _ _ _ _ => WP_s (show ct 68 122 = some (.iload_n 2, 0, []) by decide +kernel) rfl,
  fun _ _ _ _ _ _ _ _ => WR_i (show ct 68 123 = some (.ireturn, 2, [0]) by decide +kernel)⟩
/-- all of 68 -/
def w68_n : Nat := 2
/-! 69: FewBowls$Reader.readPrice()I; loop heads [] -/
set_option maxRecDepth 10000 in
theorem w69 : (∀ (x0 : Nat) (st : List Value) (h : AH) (Q : Option Value → AH → Prop), WP 69 0 [.ref x0, .retAddr 0] (st) h Q ↔ WP 69 1 [.ref x0, .retAddr 0] (.int (1) :: st) h Q) ∧
  (∀ (x0 : Nat) (y0 : Int32) (st : List Value) (h : AH) (Q : Option Value → AH → Prop), WP 69 1 [.ref x0, .retAddr 0] (.int y0 :: st) h Q ↔ WP 69 2 [.ref x0, .int y0] (st) h Q) ∧
  (∀ (x0 : Nat) (x1 : Int32) (st : List Value) (h : AH) (Q : Option Value → AH → Prop), WP 69 2 [.ref x0, .int x1] (st) h Q ↔ WP 69 3 [.ref x0, .int x1] (.ref x0 :: st) h Q) ∧
  (∀ (x0 : Nat) (x1 : Int32) (y0 : Nat) (st : List Value) (h : AH) (Q : Option Value → AH → Prop) (ht : hT h y0 = 8), WP 69 3 [.ref x0, .int x1] (.ref y0 :: st) h Q ↔ WP 69 6 [.ref x0, .int x1] (.ref (hR h y0 0) :: st) h Q) ∧
  (∀ (x0 : Nat) (x1 : Int32) (y0 : Nat) (st : List Value) (h : AH) (Q : Option Value → AH → Prop) (ht : hT h y0 = 11), WP 69 6 [.ref x0, .int x1] (.ref y0 :: st) h Q ↔ WP 69 9 [.ref x0, .int x1] (.int (hI h y0 4) :: st) h Q) ∧
  (∀ (x0 : Nat) (x1 : Int32) (st : List Value) (h : AH) (Q : Option Value → AH → Prop), WP 69 9 [.ref x0, .int x1] (st) h Q ↔ WP 69 10 [.ref x0, .int x1] (.int (3) :: st) h Q) ∧
  (∀ (x0 : Nat) (x1 : Int32) (y0 : Int32) (y1 : Int32) (st : List Value) (h : AH) (Q : Option Value → AH → Prop), WP 69 10 [.ref x0, .int x1] (.int y0 :: .int y1 :: st) h Q ↔ ((¬ y1 = y0 → WP 69 53 [.ref x0, .int x1] (st) h Q) ∧ (y1 = y0 → WP 69 13 [.ref x0, .int x1] (st) h Q))) ∧
  (∀ (x0 : Nat) (x1 : Int32) (st : List Value) (h : AH) (Q : Option Value → AH → Prop), WP 69 13 [.ref x0, .int x1] (st) h Q ↔ WP 69 14 [.ref x0, .int x1] (.ref x0 :: st) h Q) ∧
  (∀ (x0 : Nat) (x1 : Int32) (y0 : Nat) (st : List Value) (h : AH) (Q : Option Value → AH → Prop) (ht : hT h y0 = 8), WP 69 14 [.ref x0, .int x1] (.ref y0 :: st) h Q ↔ WP 69 17 [.ref x0, .int x1] (.ref (hR h y0 0) :: st) h Q) ∧
  (∀ (x0 : Nat) (x1 : Int32) (y0 : Nat) (h : AH) (Q : Option Value → AH → Prop) (ht : hT h y0 = 11), WP 69 17 [.ref x0, .int x1] ([.ref y0]) h Q ↔ WPM 95 [.ref y0] h (fun r h' => WP 69 20 [.ref x0, .int x1] (r.toList ++ []) h' Q)) ∧
  (∀ (x0 : Nat) (x1 : Int32) (st : List Value) (h : AH) (Q : Option Value → AH → Prop), WP 69 20 [.ref x0, .int x1] (st) h Q ↔ WP 69 21 [.ref x0, .int x1] (.ref x0 :: st) h Q) ∧
  (∀ (x0 : Nat) (x1 : Int32) (y0 : Nat) (st : List Value) (h : AH) (Q : Option Value → AH → Prop) (ht : hT h y0 = 8), WP 69 21 [.ref x0, .int x1] (.ref y0 :: st) h Q ↔ WP 69 24 [.ref x0, .int x1] (.ref (hR h y0 0) :: st) h Q) ∧
  (∀ (x0 : Nat) (x1 : Int32) (y0 : Nat) (st : List Value) (h : AH) (Q : Option Value → AH → Prop) (ht : hT h y0 = 11), WP 69 24 [.ref x0, .int x1] (.ref y0 :: st) h Q ↔ WP 69 27 [.ref x0, .int x1] (.int (hI h y0 4) :: st) h Q) ∧
  (∀ (x0 : Nat) (x1 : Int32) (st : List Value) (h : AH) (Q : Option Value → AH → Prop), WP 69 27 [.ref x0, .int x1] (st) h Q ↔ WP 69 29 [.ref x0, .int x1] (.int (8) :: st) h Q) ∧
  (∀ (x0 : Nat) (x1 : Int32) (y0 : Int32) (y1 : Int32) (st : List Value) (h : AH) (Q : Option Value → AH → Prop), WP 69 29 [.ref x0, .int x1] (.int y0 :: .int y1 :: st) h Q ↔ ((y1 = y0 → WP 69 38 [.ref x0, .int x1] (st) h Q) ∧ (¬ y1 = y0 → WP 69 32 [.ref x0, .int x1] (st) h Q))) ∧
  (∀ (x0 : Nat) (x1 : Int32) (st : List Value) (h : AH) (Q : Option Value → AH → Prop), WP 69 32 [.ref x0, .int x1] (st) h Q ↔ WP 69 33 [.ref x0, .int x1] (.ref x0 :: st) h Q) ∧
  (∀ (x0 : Nat) (x1 : Int32) (st : List Value) (h : AH) (Q : Option Value → AH → Prop), WP 69 33 [.ref x0, .int x1] (st) h Q ↔ WP 69 34 [.ref x0, .int x1] (.int (1) :: st) h Q) ∧
  (∀ (x0 : Nat) (x1 : Int32) (y1 : Nat) (y0 : Int32) (h : AH) (Q : Option Value → AH → Prop) (ht : hT h y1 = 8), WP 69 34 [.ref x0, .int x1] ([.int y0, .ref y1]) h Q ↔ WPM 64 [.ref y1, .int y0] h (fun r h' => WP 69 37 [.ref x0, .int x1] (r.toList ++ []) h' Q)) ∧
  (∀ (x0 : Nat) (x1 : Int32) (y0 : Int32) (h : AH) (Q : Option Value → AH → Prop), WP 69 37 [.ref x0, .int x1] ([.int y0]) h Q ↔ Q (some (.int y0)) h) ∧
  (∀ (x0 : Nat) (x1 : Int32) (st : List Value) (h : AH) (Q : Option Value → AH → Prop), WP 69 38 [.ref x0, .int x1] (st) h Q ↔ WP 69 39 [.ref x0, .int x1] (.ref x0 :: st) h Q) ∧
  (∀ (x0 : Nat) (x1 : Int32) (y0 : Nat) (st : List Value) (h : AH) (Q : Option Value → AH → Prop) (ht : hT h y0 = 8), WP 69 39 [.ref x0, .int x1] (.ref y0 :: st) h Q ↔ WP 69 42 [.ref x0, .int x1] (.ref (hR h y0 0) :: st) h Q) ∧
  (∀ (x0 : Nat) (x1 : Int32) (y0 : Nat) (st : List Value) (h : AH) (Q : Option Value → AH → Prop) (ht : hT h y0 = 11), WP 69 42 [.ref x0, .int x1] (.ref y0 :: st) h Q ↔ WP 69 45 [.ref x0, .int x1] (.int (hI h y0 6) :: st) h Q) ∧
  (∀ (x0 : Nat) (x1 : Int32) (y0 : Int32) (st : List Value) (h : AH) (Q : Option Value → AH → Prop), WP 69 45 [.ref x0, .int x1] (.int y0 :: st) h Q ↔ WP 69 46 [.ref x0, .int y0] (st) h Q) ∧
  (∀ (x0 : Nat) (x1 : Int32) (st : List Value) (h : AH) (Q : Option Value → AH → Prop), WP 69 46 [.ref x0, .int x1] (st) h Q ↔ WP 69 47 [.ref x0, .int x1] (.ref x0 :: st) h Q) ∧
  (∀ (x0 : Nat) (x1 : Int32) (y0 : Nat) (st : List Value) (h : AH) (Q : Option Value → AH → Prop) (ht : hT h y0 = 8), WP 69 47 [.ref x0, .int x1] (.ref y0 :: st) h Q ↔ WP 69 50 [.ref x0, .int x1] (.ref (hR h y0 0) :: st) h Q) ∧
  (∀ (x0 : Nat) (x1 : Int32) (y0 : Nat) (h : AH) (Q : Option Value → AH → Prop) (ht : hT h y0 = 11), WP 69 50 [.ref x0, .int x1] ([.ref y0]) h Q ↔ WPM 95 [.ref y0] h (fun r h' => WP 69 53 [.ref x0, .int x1] (r.toList ++ []) h' Q)) ∧
  (∀ (x0 : Nat) (x1 : Int32) (st : List Value) (h : AH) (Q : Option Value → AH → Prop), WP 69 53 [.ref x0, .int x1] (st) h Q ↔ WP 69 54 [.ref x0, .int x1] (.ref x0 :: st) h Q) ∧
  (∀ (x0 : Nat) (x1 : Int32) (y0 : Nat) (st : List Value) (h : AH) (Q : Option Value → AH → Prop) (ht : hT h y0 = 8), WP 69 54 [.ref x0, .int x1] (.ref y0 :: st) h Q ↔ WP 69 57 [.ref x0, .int x1] (.ref (hR h y0 0) :: st) h Q) ∧
  (∀ (x0 : Nat) (x1 : Int32) (y0 : Nat) (st : List Value) (h : AH) (Q : Option Value → AH → Prop) (ht : hT h y0 = 11), WP 69 57 [.ref x0, .int x1] (.ref y0 :: st) h Q ↔ WP 69 60 [.ref x0, .int x1] (.int (hI h y0 4) :: st) h Q) ∧
  (∀ (x0 : Nat) (x1 : Int32) (st : List Value) (h : AH) (Q : Option Value → AH → Prop), WP 69 60 [.ref x0, .int x1] (st) h Q ↔ WP 69 62 [.ref x0, .int x1] (.int (9) :: st) h Q) ∧
  (∀ (x0 : Nat) (x1 : Int32) (y0 : Int32) (y1 : Int32) (st : List Value) (h : AH) (Q : Option Value → AH → Prop), WP 69 62 [.ref x0, .int x1] (.int y0 :: .int y1 :: st) h Q ↔ ((y1 = y0 → WP 69 71 [.ref x0, .int x1] (st) h Q) ∧ (¬ y1 = y0 → WP 69 65 [.ref x0, .int x1] (st) h Q))) ∧
  (∀ (x0 : Nat) (x1 : Int32) (st : List Value) (h : AH) (Q : Option Value → AH → Prop), WP 69 65 [.ref x0, .int x1] (st) h Q ↔ WP 69 66 [.ref x0, .int x1] (.ref x0 :: st) h Q) ∧
  (∀ (x0 : Nat) (x1 : Int32) (st : List Value) (h : AH) (Q : Option Value → AH → Prop), WP 69 66 [.ref x0, .int x1] (st) h Q ↔ WP 69 67 [.ref x0, .int x1] (.int (1) :: st) h Q) ∧
  (∀ (x0 : Nat) (x1 : Int32) (y1 : Nat) (y0 : Int32) (h : AH) (Q : Option Value → AH → Prop) (ht : hT h y1 = 8), WP 69 67 [.ref x0, .int x1] ([.int y0, .ref y1]) h Q ↔ WPM 64 [.ref y1, .int y0] h (fun r h' => WP 69 70 [.ref x0, .int x1] (r.toList ++ []) h' Q)) ∧
  (∀ (x0 : Nat) (x1 : Int32) (y0 : Int32) (h : AH) (Q : Option Value → AH → Prop), WP 69 70 [.ref x0, .int x1] ([.int y0]) h Q ↔ Q (some (.int y0)) h) ∧
  (∀ (x0 : Nat) (x1 : Int32) (st : List Value) (h : AH) (Q : Option Value → AH → Prop), WP 69 71 [.ref x0, .int x1] (st) h Q ↔ WP 69 72 [.ref x0, .int x1] (.int x1 :: st) h Q) ∧
  (∀ (x0 : Nat) (x1 : Int32) (y0 : Int32) (h : AH) (Q : Option Value → AH → Prop), WP 69 72 [.ref x0, .int x1] ([.int y0]) h Q ↔ Q (some (.int y0)) h) :=
  ⟨fun _ _ _ _ => WP_s (show ct 69 0 = some (.iconst 1, 0, []) by decide +kernel) rfl,
  fun _ _ _ _ _ => WP_s (show ct 69 1 = some (.istore_n 1, 0, []) by decide +kernel) rfl,
  fun _ _ _ _ _ => WP_s (show ct 69 2 = some (.aload_n 0, 0, []) by decide +kernel) rfl,
  fun _ _ _ _ _ _ ht => WH_gR (show ct 69 3 = some (.getfield 12, 1, [7, 0, 2, 305]) by decide +kernel) ht,
  fun _ _ _ _ _ _ ht => WH_gI (show ct 69 6 = some (.getfield 49, 1, [10, 4, 0, 285]) by decide +kernel) (by decide) ht,
  fun _ _ _ _ _ => WP_s (show ct 69 9 = some (.iconst 3, 0, []) by decide +kernel) rfl,
  fun _ _ _ _ _ _ _ => WI_ne (show ct 69 10 = some (.if_icmp .ne 43, 0, [53]) by decide +kernel) (by decide),
  fun _ _ _ _ _ => WP_s (show ct 69 13 = some (.aload_n 0, 0, []) by decide +kernel) rfl,
  fun _ _ _ _ _ _ ht => WH_gR (show ct 69 14 = some (.getfield 12, 1, [7, 0, 2, 305]) by decide +kernel) ht,
  fun _ _ _ _ _ ht => WC_1 (show ct 69 17 = some (.invokevirtual 46, 3, [95, 1, 1, 11, 0, 647, 648, 649]) by decide +kernel) (Nat.le_of_ble_eq_true rfl) (Nat.le_of_ble_eq_true rfl) rfl rfl ht,
  fun _ _ _ _ _ => WP_s (show ct 69 20 = some (.aload_n 0, 0, []) by decide +kernel) rfl,
  fun _ _ _ _ _ _ ht => WH_gR (show ct 69 21 = some (.getfield 12, 1, [7, 0, 2, 305]) by decide +kernel) ht,
  fun _ _ _ _ _ _ ht => WH_gI (show ct 69 24 = some (.getfield 49, 1, [10, 4, 0, 285]) by decide +kernel) (by decide) ht,
  fun _ _ _ _ _ => WP_s (show ct 69 27 = some (.bipush 8, 0, []) by decide +kernel) rfl,
  fun _ _ _ _ _ _ _ => WI_eq (show ct 69 29 = some (.if_icmp .eq 9, 0, [38]) by decide +kernel) (by decide),
  fun _ _ _ _ _ => WP_s (show ct 69 32 = some (.aload_n 0, 0, []) by decide +kernel) rfl,
  fun _ _ _ _ _ => WP_s (show ct 69 33 = some (.iconst 1, 0, []) by decide +kernel) rfl,
  fun _ _ _ _ _ _ ht => WC_1 (show ct 69 34 = some (.invokevirtual 89, 3, [64, 2, 1, 8, 0, 733, 735, 15]) by decide +kernel) (Nat.le_of_ble_eq_true rfl) (Nat.le_of_ble_eq_true rfl) rfl rfl ht,
  fun _ _ _ _ _ => WR_i (show ct 69 37 = some (.ireturn, 2, [0]) by decide +kernel),
  fun _ _ _ _ _ => WP_s (show ct 69 38 = some (.aload_n 0, 0, []) by decide +kernel) rfl,
  fun _ _ _ _ _ _ ht => WH_gR (show ct 69 39 = some (.getfield 12, 1, [7, 0, 2, 305]) by decide +kernel) ht,
  fun _ _ _ _ _ _ ht => WH_gI (show ct 69 42 = some (.getfield 70, 1, [10, 6, 0, 289]) by decide +kernel) (by decide) ht,
  fun _ _ _ _ _ _ => WP_s (show ct 69 45 = some (.istore_n 1, 0, []) by decide +kernel) rfl,
  fun _ _ _ _ _ => WP_s (show ct 69 46 = some (.aload_n 0, 0, []) by decide +kernel) rfl,
  fun _ _ _ _ _ _ ht => WH_gR (show ct 69 47 = some (.getfield 12, 1, [7, 0, 2, 305]) by decide +kernel) ht,
  fun _ _ _ _ _ ht => WC_1 (show ct 69 50 = some (.invokevirtual 46, 3, [95, 1, 1, 11, 0, 647, 648, 649]) by decide +kernel) (Nat.le_of_ble_eq_true rfl) (Nat.le_of_ble_eq_true rfl) rfl rfl ht,
  fun _ _ _ _ _ => WP_s (show ct 69 53 = some (.aload_n 0, 0, []) by decide +kernel) rfl,
  fun _ _ _ _ _ _ ht => WH_gR (show ct 69 54 = some (.getfield 12, 1, [7, 0, 2, 305]) by decide +kernel) ht,
  fun _ _ _ _ _ _ ht => WH_gI (show ct 69 57 = some (.getfield 49, 1, [10, 4, 0, 285]) by decide +kernel) (by decide) ht,
  fun _ _ _ _ _ => WP_s (show ct 69 60 = some (.bipush 9, 0, []) by decide +kernel) rfl,
  fun _ _ _ _ _ _ _ => WI_eq (show ct 69 62 = some (.if_icmp .eq 9, 0, [71]) by decide +kernel) (by decide),
  fun _ _ _ _ _ => WP_s (show ct 69 65 = some (.aload_n 0, 0, []) by decide +kernel) rfl,
  fun _ _ _ _ _ => WP_s (show ct 69 66 = some (.iconst 1, 0, []) by decide +kernel) rfl,
  fun _ _ _ _ _ _ ht => WC_1 (show ct 69 67 = some (.invokevirtual 89, 3, [64, 2, 1, 8, 0, 733, 735, 15]) by decide +kernel) (Nat.le_of_ble_eq_true rfl) (Nat.le_of_ble_eq_true rfl) rfl rfl ht,
  fun _ _ _ _ _ => WR_i (show ct 69 70 = some (.ireturn, 2, [0]) by decide +kernel),
  fun _ _ _ _ _ => WP_s (show ct 69 71 = some (.iload_n 1, 0, []) by decide +kernel) rfl,
  fun _ _ _ _ _ => WR_i (show ct 69 72 = some (.ireturn, 2, [0]) by decide +kernel)⟩
/-! 70: FewBowls$Reader.readWish(LFewBowls$Net;)Z; loop heads [11] -/
theorem w70_11 : ∀ (x0 : Nat) (x1 : Nat) (x2 : Int32) (x3 : Int32) (x4 : Value) (st : List Value) (h : AH) (Q : Option Value → AH → Prop), WP 70 11 [.ref x0, .ref x1, .int x2, .int x3, x4] (st) h Q ↔ WP 70 12 [.ref x0, .ref x1, .int x2, .int x3, x4] (.int x3 :: st) h Q := fun _ _ _ _ _ _ _ _ => WP_s (show ct 70 11 = some (.iload_n 3, 0, []) by decide +kernel) rfl
set_option maxRecDepth 10000 in
theorem w70_a : (∀ (x0 : Nat) (x1 : Nat) (st : List Value) (h : AH) (Q : Option Value → AH → Prop), WP 70 0 [.ref x0, .ref x1, .retAddr 0, .retAddr 0, .retAddr 0] (st) h Q ↔ WP 70 1 [.ref x0, .ref x1, .retAddr 0, .retAddr 0, .retAddr 0] (.ref x0 :: st) h Q) ∧
  (∀ (x0 : Nat) (x1 : Nat) (y0 : Nat) (st : List Value) (h : AH) (Q : Option Value → AH → Prop) (ht : hT h y0 = 8), WP 70 1 [.ref x0, .ref x1, .retAddr 0, .retAddr 0, .retAddr 0] (.ref y0 :: st) h Q ↔ WP 70 4 [.ref x0, .ref x1, .retAddr 0, .retAddr 0, .retAddr 0] (.ref (hR h y0 0) :: st) h Q) ∧
  (∀ (x0 : Nat) (x1 : Nat) (y0 : Nat) (h : AH) (Q : Option Value → AH → Prop) (ht : hT h y0 = 11), WP 70 4 [.ref x0, .ref x1, .retAddr 0, .retAddr 0, .retAddr 0] ([.ref y0]) h Q ↔ WPM 95 [.ref y0] h (fun r h' => WP 70 7 [.ref x0, .ref x1, .retAddr 0, .retAddr 0, .retAddr 0] (r.toList ++ []) h' Q)) ∧
  (∀ (x0 : Nat) (x1 : Nat) (st : List Value) (h : AH) (Q : Option Value → AH → Prop), WP 70 7 [.ref x0, .ref x1, .retAddr 0, .retAddr 0, .retAddr 0] (st) h Q ↔ WP 70 8 [.ref x0, .ref x1, .retAddr 0, .retAddr 0, .retAddr 0] (.int (0) :: st) h Q) ∧
  (∀ (x0 : Nat) (x1 : Nat) (y0 : Int32) (st : List Value) (h : AH) (Q : Option Value → AH → Prop), WP 70 8 [.ref x0, .ref x1, .retAddr 0, .retAddr 0, .retAddr 0] (.int y0 :: st) h Q ↔ WP 70 9 [.ref x0, .ref x1, .int y0, .retAddr 0, .retAddr 0] (st) h Q) ∧
  (∀ (x0 : Nat) (x1 : Nat) (x2 : Int32) (st : List Value) (h : AH) (Q : Option Value → AH → Prop), WP 70 9 [.ref x0, .ref x1, .int x2, .retAddr 0, .retAddr 0] (st) h Q ↔ WP 70 10 [.ref x0, .ref x1, .int x2, .retAddr 0, .retAddr 0] (.int (0) :: st) h Q) ∧
  (∀ (x0 : Nat) (x1 : Nat) (x2 : Int32) (y0 : Int32) (st : List Value) (h : AH) (Q : Option Value → AH → Prop), WP 70 10 [.ref x0, .ref x1, .int x2, .retAddr 0, .retAddr 0] (.int y0 :: st) h Q ↔ WP 70 11 [.ref x0, .ref x1, .int x2, .int y0, .retAddr 0] (st) h Q) ∧
  (∀ (x0 : Nat) (x1 : Nat) (x2 : Int32) (x3 : Int32) (x4 : Value) (st : List Value) (h : AH) (Q : Option Value → AH → Prop), WP 70 12 [.ref x0, .ref x1, .int x2, .int x3, x4] (st) h Q ↔ WP 70 14 [.ref x0, .ref x1, .int x2, .int x3, x4] (.int (14) :: st) h Q) ∧
  (∀ (x0 : Nat) (x1 : Nat) (x2 : Int32) (x3 : Int32) (x4 : Value) (y0 : Int32) (y1 : Int32) (st : List Value) (h : AH) (Q : Option Value → AH → Prop), WP 70 14 [.ref x0, .ref x1, .int x2, .int x3, x4] (.int y0 :: .int y1 :: st) h Q ↔ ((y0 < y1 → WP 70 95 [.ref x0, .ref x1, .int x2, .int x3, x4] (st) h Q) ∧ (¬ y0 < y1 → WP 70 17 [.ref x0, .ref x1, .int x2, .int x3, x4] (st) h Q))) ∧
  (∀ (x0 : Nat) (x1 : Nat) (x2 : Int32) (x3 : Int32) (x4 : Value) (st : List Value) (h : AH) (Q : Option Value → AH → Prop), WP 70 17 [.ref x0, .ref x1, .int x2, .int x3, x4] (st) h Q ↔ WP 70 18 [.ref x0, .ref x1, .int x2, .int x3, x4] (.ref x0 :: st) h Q) ∧
  (∀ (x0 : Nat) (x1 : Nat) (x2 : Int32) (x3 : Int32) (x4 : Value) (y0 : Nat) (st : List Value) (h : AH) (Q : Option Value → AH → Prop) (ht : hT h y0 = 8), WP 70 18 [.ref x0, .ref x1, .int x2, .int x3, x4] (.ref y0 :: st) h Q ↔ WP 70 21 [.ref x0, .ref x1, .int x2, .int x3, x4] (.ref (hR h y0 0) :: st) h Q) ∧
  (∀ (x0 : Nat) (x1 : Nat) (x2 : Int32) (x3 : Int32) (x4 : Value) (y0 : Nat) (st : List Value) (h : AH) (Q : Option Value → AH → Prop) (ht : hT h y0 = 11), WP 70 21 [.ref x0, .ref x1, .int x2, .int x3, x4] (.ref y0 :: st) h Q ↔ WP 70 24 [.ref x0, .ref x1, .int x2, .int x3, x4] (.int (hI h y0 4) :: st) h Q) ∧
  (∀ (x0 : Nat) (x1 : Nat) (x2 : Int32) (x3 : Int32) (x4 : Value) (st : List Value) (h : AH) (Q : Option Value → AH → Prop), WP 70 24 [.ref x0, .ref x1, .int x2, .int x3, x4] (st) h Q ↔ WP 70 26 [.ref x0, .ref x1, .int x2, .int x3, x4] (.int (7) :: st) h Q) ∧
  (∀ (x0 : Nat) (x1 : Nat) (x2 : Int32) (x3 : Int32) (x4 : Value) (y0 : Int32) (y1 : Int32) (st : List Value) (h : AH) (Q : Option Value → AH → Prop), WP 70 26 [.ref x0, .ref x1, .int x2, .int x3, x4] (.int y0 :: .int y1 :: st) h Q ↔ ((¬ y1 = y0 → WP 70 95 [.ref x0, .ref x1, .int x2, .int x3, x4] (st) h Q) ∧ (y1 = y0 → WP 70 29 [.ref x0, .ref x1, .int x2, .int x3, x4] (st) h Q))) ∧
  (∀ (x0 : Nat) (x1 : Nat) (x2 : Int32) (x3 : Int32) (x4 : Value) (st : List Value) (h : AH) (Q : Option Value → AH → Prop), WP 70 29 [.ref x0, .ref x1, .int x2, .int x3, x4] (st) h Q ↔ WP 70 30 [.ref x0, .ref x1, .int x2, .int x3, x4] (.ref x1 :: st) h Q) ∧
  (∀ (x0 : Nat) (x1 : Nat) (x2 : Int32) (x3 : Int32) (x4 : Value) (st : List Value) (h : AH) (Q : Option Value → AH → Prop), WP 70 30 [.ref x0, .ref x1, .int x2, .int x3, x4] (st) h Q ↔ WP 70 31 [.ref x0, .ref x1, .int x2, .int x3, x4] (.ref x0 :: st) h Q) ∧
  (∀ (x0 : Nat) (x1 : Nat) (x2 : Int32) (x3 : Int32) (x4 : Value) (y0 : Nat) (st : List Value) (h : AH) (Q : Option Value → AH → Prop) (ht : hT h y0 = 8), WP 70 31 [.ref x0, .ref x1, .int x2, .int x3, x4] (.ref y0 :: st) h Q ↔ WP 70 34 [.ref x0, .ref x1, .int x2, .int x3, x4] (.ref (hR h y0 0) :: st) h Q) ∧
  (∀ (x0 : Nat) (x1 : Nat) (x2 : Int32) (x3 : Int32) (x4 : Value) (y0 : Nat) (st : List Value) (h : AH) (Q : Option Value → AH → Prop) (ht : hT h y0 = 11), WP 70 34 [.ref x0, .ref x1, .int x2, .int x3, x4] (.ref y0 :: st) h Q ↔ WP 70 37 [.ref x0, .ref x1, .int x2, .int x3, x4] (.int (hI h y0 6) :: st) h Q) ∧
  (∀ (x0 : Nat) (x1 : Nat) (x2 : Int32) (x3 : Int32) (x4 : Value) (y1 : Nat) (y0 : Int32) (h : AH) (Q : Option Value → AH → Prop) (ht : hT h y1 = 4), WP 70 37 [.ref x0, .ref x1, .int x2, .int x3, x4] ([.int y0, .ref y1]) h Q ↔ WPM 26 [.ref y1, .int y0] h (fun r h' => WP 70 40 [.ref x0, .ref x1, .int x2, .int x3, x4] (r.toList ++ []) h' Q)) ∧
  (∀ (x0 : Nat) (x1 : Nat) (x2 : Int32) (x3 : Int32) (x4 : Value) (y0 : Int32) (st : List Value) (h : AH) (Q : Option Value → AH → Prop), WP 70 40 [.ref x0, .ref x1, .int x2, .int x3, x4] (.int y0 :: st) h Q ↔ WP 70 42 [.ref x0, .ref x1, .int x2, .int x3, .int y0] (st) h Q) ∧
  (∀ (x0 : Nat) (x1 : Nat) (x2 : Int32) (x3 : Int32) (x4 : Int32) (st : List Value) (h : AH) (Q : Option Value → AH → Prop), WP 70 42 [.ref x0, .ref x1, .int x2, .int x3, .int x4] (st) h Q ↔ WP 70 44 [.ref x0, .ref x1, .int x2, .int x3, .int x4] (.int x4 :: st) h Q) ∧
  (∀ (x0 : Nat) (x1 : Nat) (x2 : Int32) (x3 : Int32) (x4 : Int32) (y0 : Int32) (st : List Value) (h : AH) (Q : Option Value → AH → Prop), WP 70 44 [.ref x0, .ref x1, .int x2, .int x3, .int x4] (.int y0 :: st) h Q ↔ ((y0 < 0 → WP 70 60 [.ref x0, .ref x1, .int x2, .int x3, .int x4] (st) h Q) ∧ (¬ y0 < 0 → WP 70 47 [.ref x0, .ref x1, .int x2, .int x3, .int x4] (st) h Q))) ∧
  (∀ (x0 : Nat) (x1 : Nat) (x2 : Int32) (x3 : Int32) (x4 : Int32) (st : List Value) (h : AH) (Q : Option Value → AH → Prop), WP 70 47 [.ref x0, .ref x1, .int x2, .int x3, .int x4] (st) h Q ↔ WP 70 48 [.ref x0, .ref x1, .int x2, .int x3, .int x4] (.ref x1 :: st) h Q) ∧
  (∀ (x0 : Nat) (x1 : Nat) (x2 : Int32) (x3 : Int32) (x4 : Int32) (y0 : Nat) (st : List Value) (h : AH) (Q : Option Value → AH → Prop) (ht : hT h y0 = 4), WP 70 48 [.ref x0, .ref x1, .int x2, .int x3, .int x4] (.ref y0 :: st) h Q ↔ WP 70 51 [.ref x0, .ref x1, .int x2, .int x3, .int x4] (.int (hI h y0 2) :: st) h Q) ∧
  (∀ (x0 : Nat) (x1 : Nat) (x2 : Int32) (x3 : Int32) (x4 : Int32) (st : List Value) (h : AH) (Q : Option Value → AH → Prop), WP 70 51 [.ref x0, .ref x1, .int x2, .int x3, .int x4] (st) h Q ↔ WP 70 53 [.ref x0, .ref x1, .int x2, .int x3, .int x4] (.int x4 :: st) h Q) ∧
  (∀ (x0 : Nat) (x1 : Nat) (x2 : Int32) (x3 : Int32) (x4 : Int32) (y1 : Int32) (y0 : Int32) (h : AH) (Q : Option Value → AH → Prop), WP 70 53 [.ref x0, .ref x1, .int x2, .int x3, .int x4] ([.int y0, .int y1]) h Q ↔ WPM 140 [.int y1, .int y0] h (fun r h' => WP 70 56 [.ref x0, .ref x1, .int x2, .int x3, .int x4] (r.toList ++ []) h' Q)) ∧
  (∀ (x0 : Nat) (x1 : Nat) (x2 : Int32) (x3 : Int32) (x4 : Int32) (st : List Value) (h : AH) (Q : Option Value → AH → Prop), WP 70 56 [.ref x0, .ref x1, .int x2, .int x3, .int x4] (st) h Q ↔ WP 70 57 [.ref x0, .ref x1, .int x2, .int x3, .int x4] (.int (1) :: st) h Q) ∧
  (∀ (x0 : Nat) (x1 : Nat) (x2 : Int32) (x3 : Int32) (x4 : Int32) (y0 : Int32) (y1 : Int32) (st : List Value) (h : AH) (Q : Option Value → AH → Prop), WP 70 57 [.ref x0, .ref x1, .int x2, .int x3, .int x4] (.int y0 :: .int y1 :: st) h Q ↔ ((¬ y1 = y0 → WP 70 66 [.ref x0, .ref x1, .int x2, .int x3, .int x4] (st) h Q) ∧ (y1 = y0 → WP 70 60 [.ref x0, .ref x1, .int x2, .int x3, .int x4] (st) h Q))) ∧
  (∀ (x0 : Nat) (x1 : Nat) (x2 : Int32) (x3 : Int32) (x4 : Int32) (st : List Value) (h : AH) (Q : Option Value → AH → Prop), WP 70 60 [.ref x0, .ref x1, .int x2, .int x3, .int x4] (st) h Q ↔ WP 70 61 [.ref x0, .ref x1, .int x2, .int x3, .int x4] (.ref x0 :: st) h Q) ∧
  (∀ (x0 : Nat) (x1 : Nat) (x2 : Int32) (x3 : Int32) (x4 : Int32) (st : List Value) (h : AH) (Q : Option Value → AH → Prop), WP 70 61 [.ref x0, .ref x1, .int x2, .int x3, .int x4] (st) h Q ↔ WP 70 62 [.ref x0, .ref x1, .int x2, .int x3, .int x4] (.int (3) :: st) h Q) ∧
  (∀ (x0 : Nat) (x1 : Nat) (x2 : Int32) (x3 : Int32) (x4 : Int32) (y1 : Nat) (y0 : Int32) (h : AH) (Q : Option Value → AH → Prop) (ht : hT h y1 = 8), WP 70 62 [.ref x0, .ref x1, .int x2, .int x3, .int x4] ([.int y0, .ref y1]) h Q ↔ WPM 63 [.ref y1, .int y0] h (fun r h' => WP 70 65 [.ref x0, .ref x1, .int x2, .int x3, .int x4] (r.toList ++ []) h' Q)) ∧
  (∀ (x0 : Nat) (x1 : Nat) (x2 : Int32) (x3 : Int32) (x4 : Int32) (y0 : Int32) (h : AH) (Q : Option Value → AH → Prop) (hz : y0 = 0 ∨ y0 = 1), WP 70 65 [.ref x0, .ref x1, .int x2, .int x3, .int x4] ([.int y0]) h Q ↔ Q (some (.int y0)) h) ∧
  (∀ (x0 : Nat) (x1 : Nat) (x2 : Int32) (x3 : Int32) (x4 : Int32) (st : List Value) (h : AH) (Q : Option Value → AH → Prop), WP 70 66 [.ref x0, .ref x1, .int x2, .int x3, .int x4] (st) h Q ↔ WP 70 67 [.ref x0, .ref x1, .int x2, .int x3, .int x4] (.ref x1 :: st) h Q) ∧
  (∀ (x0 : Nat) (x1 : Nat) (x2 : Int32) (x3 : Int32) (x4 : Int32) (y0 : Nat) (st : List Value) (h : AH) (Q : Option Value → AH → Prop), WP 70 67 [.ref x0, .ref x1, .int x2, .int x3, .int x4] (.ref y0 :: st) h Q ↔ WP 70 68 [.ref x0, .ref x1, .int x2, .int x3, .int x4] (.ref y0 :: .ref y0 :: st) h Q) ∧
  (∀ (x0 : Nat) (x1 : Nat) (x2 : Int32) (x3 : Int32) (x4 : Int32) (y0 : Nat) (st : List Value) (h : AH) (Q : Option Value → AH → Prop) (ht : hT h y0 = 4), WP 70 68 [.ref x0, .ref x1, .int x2, .int x3, .int x4] (.ref y0 :: st) h Q ↔ WP 70 71 [.ref x0, .ref x1, .int x2, .int x3, .int x4] (.int (hI h y0 2) :: st) h Q) ∧
  (∀ (x0 : Nat) (x1 : Nat) (x2 : Int32) (x3 : Int32) (x4 : Int32) (st : List Value) (h : AH) (Q : Option Value → AH → Prop), WP 70 71 [.ref x0, .ref x1, .int x2, .int x3, .int x4] (st) h Q ↔ WP 70 72 [.ref x0, .ref x1, .int x2, .int x3, .int x4] (.int (1) :: st) h Q) ∧
  (∀ (x0 : Nat) (x1 : Nat) (x2 : Int32) (x3 : Int32) (x4 : Int32) (st : List Value) (h : AH) (Q : Option Value → AH → Prop), WP 70 72 [.ref x0, .ref x1, .int x2, .int x3, .int x4] (st) h Q ↔ WP 70 74 [.ref x0, .ref x1, .int x2, .int x3, .int x4] (.int x4 :: st) h Q) ∧
  (∀ (x0 : Nat) (x1 : Nat) (x2 : Int32) (x3 : Int32) (x4 : Int32) (y0 : Int32) (y1 : Int32) (st : List Value) (h : AH) (Q : Option Value → AH → Prop), WP 70 74 [.ref x0, .ref x1, .int x2, .int x3, .int x4] (.int y0 :: .int y1 :: st) h Q ↔ WP 70 75 [.ref x0, .ref x1, .int x2, .int x3, .int x4] (.int (y1 <<< (y0 &&& 31)) :: st) h Q) ∧
  (∀ (x0 : Nat) (x1 : Nat) (x2 : Int32) (x3 : Int32) (x4 : Int32) (y0 : Int32) (y1 : Int32) (st : List Value) (h : AH) (Q : Option Value → AH → Prop), WP 70 75 [.ref x0, .ref x1, .int x2, .int x3, .int x4] (.int y0 :: .int y1 :: st) h Q ↔ WP 70 76 [.ref x0, .ref x1, .int x2, .int x3, .int x4] (.int (y1 ||| y0) :: st) h Q) ∧
  (∀ (x0 : Nat) (x1 : Nat) (x2 : Int32) (x3 : Int32) (x4 : Int32) (y0 : Int32) (y1 : Nat) (st : List Value) (h : AH) (Q : Option Value → AH → Prop) (ht : hT h y1 = 4), WP 70 76 [.ref x0, .ref x1, .int x2, .int x3, .int x4] (.int y0 :: .ref y1 :: st) h Q ↔ WP 70 79 [.ref x0, .ref x1, .int x2, .int x3, .int x4] (st) (sI h y1 2 y0) Q) :=
  ⟨fun _ _ _ _ _ => WP_s (show ct 70 0 = some (.aload_n 0, 0, []) by decide +kernel) rfl,
  fun _ _ _ _ _ _ ht => WH_gR (show ct 70 1 = some (.getfield 12, 1, [7, 0, 2, 305]) by decide +kernel) ht,
  fun _ _ _ _ _ ht => WC_1 (show ct 70 4 = some (.invokevirtual 46, 3, [95, 1, 1, 11, 0, 647, 648, 649]) by decide +kernel) (Nat.le_of_ble_eq_true rfl) (Nat.le_of_ble_eq_true rfl) rfl rfl ht,
  fun _ _ _ _ _ => WP_s (show ct 70 7 = some (.iconst 0, 0, []) by decide +kernel) rfl,
  fun _ _ _ _ _ _ => WP_s (show ct 70 8 = some (.istore_n 2, 0, []) by decide +kernel) rfl,
  fun _ _ _ _ _ _ => WP_s (show ct 70 9 = some (.iconst 0, 0, []) by decide +kernel) rfl,
  fun _ _ _ _ _ _ _ => WP_s (show ct 70 10 = some (.istore_n 3, 0, []) by decide +kernel) rfl,
  fun _ _ _ _ _ _ _ _ => WP_s (show ct 70 12 = some (.bipush 14, 0, []) by decide +kernel) rfl,
  fun _ _ _ _ _ _ _ _ _ _ => WI_gt (show ct 70 14 = some (.if_icmp .gt 81, 0, [95]) by decide +kernel) (by decide),
  fun _ _ _ _ _ _ _ _ => WP_s (show ct 70 17 = some (.aload_n 0, 0, []) by decide +kernel) rfl,
  fun _ _ _ _ _ _ _ _ _ ht => WH_gR (show ct 70 18 = some (.getfield 12, 1, [7, 0, 2, 305]) by decide +kernel) ht,
  fun _ _ _ _ _ _ _ _ _ ht => WH_gI (show ct 70 21 = some (.getfield 49, 1, [10, 4, 0, 285]) by decide +kernel) (by decide) ht,
  fun _ _ _ _ _ _ _ _ => WP_s (show ct 70 24 = some (.bipush 7, 0, []) by decide +kernel) rfl,
  fun _ _ _ _ _ _ _ _ _ _ => WI_ne (show ct 70 26 = some (.if_icmp .ne 69, 0, [95]) by decide +kernel) (by decide),
  fun _ _ _ _ _ _ _ _ => WP_s (show ct 70 29 = some (.aload_n 1, 0, []) by decide +kernel) rfl,
  fun _ _ _ _ _ _ _ _ => WP_s (show ct 70 30 = some (.aload_n 0, 0, []) by decide +kernel) rfl,
  fun _ _ _ _ _ _ _ _ _ ht => WH_gR (show ct 70 31 = some (.getfield 12, 1, [7, 0, 2, 305]) by decide +kernel) ht,
  fun _ _ _ _ _ _ _ _ _ ht => WH_gI (show ct 70 34 = some (.getfield 70, 1, [10, 6, 0, 289]) by decide +kernel) (by decide) ht,
  fun _ _ _ _ _ _ _ _ _ ht => WC_1 (show ct 70 37 = some (.invokevirtual 73, 3, [26, 2, 1, 4, 0, 724, 725, 726]) by decide +kernel) (Nat.le_of_ble_eq_true rfl) (Nat.le_of_ble_eq_true rfl) rfl rfl ht,
  fun _ _ _ _ _ _ _ _ _ => WP_s (show ct 70 40 = some (.istore 4, 0, []) by decide +kernel) rfl,
  fun _ _ _ _ _ _ _ _ => WP_s (show ct 70 42 = some (.iload 4, 0, []) by decide +kernel) rfl,
  fun _ _ _ _ _ _ _ _ _ => WZ_lt (show ct 70 44 = some (.ifCond .lt 16, 0, [60]) by decide +kernel) (by decide),
  fun _ _ _ _ _ _ _ _ => WP_s (show ct 70 47 = some (.aload_n 1, 0, []) by decide +kernel) rfl,
  fun _ _ _ _ _ _ _ _ _ ht => WH_gI (show ct 70 48 = some (.getfield 54, 1, [3, 2, 0, 149]) by decide +kernel) (by decide) ht,
  fun _ _ _ _ _ _ _ _ => WP_s (show ct 70 51 = some (.iload 4, 0, []) by decide +kernel) rfl,
  fun _ _ _ _ _ _ _ _ _ => WC_0 (show ct 70 53 = some (.invokestatic 92, 3, [140, 2, 0, 0, 1, 728, 693, 0]) by decide +kernel) (Nat.le_of_ble_eq_true rfl) (Nat.le_of_ble_eq_true rfl) rfl rfl,
  fun _ _ _ _ _ _ _ _ => WP_s (show ct 70 56 = some (.iconst 1, 0, []) by decide +kernel) rfl,
  fun _ _ _ _ _ _ _ _ _ _ => WI_ne (show ct 70 57 = some (.if_icmp .ne 9, 0, [66]) by decide +kernel) (by decide),
  fun _ _ _ _ _ _ _ _ => WP_s (show ct 70 60 = some (.aload_n 0, 0, []) by decide +kernel) rfl,
  fun _ _ _ _ _ _ _ _ => WP_s (show ct 70 61 = some (.iconst 3, 0, []) by decide +kernel) rfl,
  fun _ _ _ _ _ _ _ _ _ ht => WC_1 (show ct 70 62 = some (.invokevirtual 30, 3, [63, 2, 1, 8, 0, 680, 682, 7]) by decide +kernel) (Nat.le_of_ble_eq_true rfl) (Nat.le_of_ble_eq_true rfl) rfl rfl ht,
  fun _ _ _ _ _ _ _ _ hz => WR_z (show ct 70 65 = some (.ireturn, 2, [1]) by decide +kernel) hz,
  fun _ _ _ _ _ _ _ _ => WP_s (show ct 70 66 = some (.aload_n 1, 0, []) by decide +kernel) rfl,
  fun _ _ _ _ _ _ _ _ _ => WP_s (show ct 70 67 = some (.dup, 0, []) by decide +kernel) rfl,
  fun _ _ _ _ _ _ _ _ _ ht => WH_gI (show ct 70 68 = some (.getfield 54, 1, [3, 2, 0, 149]) by decide +kernel) (by decide) ht,
  fun _ _ _ _ _ _ _ _ => WP_s (show ct 70 71 = some (.iconst 1, 0, []) by decide +kernel) rfl,
  fun _ _ _ _ _ _ _ _ => WP_s (show ct 70 72 = some (.iload 4, 0, []) by decide +kernel) rfl,
  fun _ _ _ _ _ _ _ _ _ _ => WP_s (show ct 70 74 = some (.ishl, 0, []) by decide +kernel) rfl,
  fun _ _ _ _ _ _ _ _ _ _ => WP_s (show ct 70 75 = some (.ior, 0, []) by decide +kernel) rfl,
  fun _ _ _ _ _ _ _ _ _ _ ht => WH_pI (show ct 70 76 = some (.putfield 54, 1, [3, 2, 0, 0, 149]) by decide +kernel) ht⟩
set_option maxRecDepth 10000 in
theorem w70_b : (∀ (x0 : Nat) (x1 : Nat) (x2 : Int32) (x3 : Int32) (x4 : Int32) (st : List Value) (h : AH) (Q : Option Value → AH → Prop), WP 70 79 [.ref x0, .ref x1, .int x2, .int x3, .int x4] (st) h Q ↔ WP 70 82 [.ref x0, .ref x1, .int (x2 + (1)), .int x3, .int x4] (st) h Q) ∧
  (∀ (x0 : Nat) (x1 : Nat) (x2 : Int32) (x3 : Int32) (x4 : Int32) (st : List Value) (h : AH) (Q : Option Value → AH → Prop), WP 70 82 [.ref x0, .ref x1, .int x2, .int x3, .int x4] (st) h Q ↔ WP 70 83 [.ref x0, .ref x1, .int x2, .int x3, .int x4] (.ref x0 :: st) h Q) ∧
  (∀ (x0 : Nat) (x1 : Nat) (x2 : Int32) (x3 : Int32) (x4 : Int32) (y0 : Nat) (st : List Value) (h : AH) (Q : Option Value → AH → Prop) (ht : hT h y0 = 8), WP 70 83 [.ref x0, .ref x1, .int x2, .int x3, .int x4] (.ref y0 :: st) h Q ↔ WP 70 86 [.ref x0, .ref x1, .int x2, .int x3, .int x4] (.ref (hR h y0 0) :: st) h Q) ∧
  (∀ (x0 : Nat) (x1 : Nat) (x2 : Int32) (x3 : Int32) (x4 : Int32) (y0 : Nat) (h : AH) (Q : Option Value → AH → Prop) (ht : hT h y0 = 11), WP 70 86 [.ref x0, .ref x1, .int x2, .int x3, .int x4] ([.ref y0]) h Q ↔ WPM 95 [.ref y0] h (fun r h' => WP 70 89 [.ref x0, .ref x1, .int x2, .int x3, .int x4] (r.toList ++ []) h' Q)) ∧
  (∀ (x0 : Nat) (x1 : Nat) (x2 : Int32) (x3 : Int32) (x4 : Int32) (st : List Value) (h : AH) (Q : Option Value → AH → Prop), WP 70 89 [.ref x0, .ref x1, .int x2, .int x3, .int x4] (st) h Q ↔ WP 70 92 [.ref x0, .ref x1, .int x2, .int (x3 + (1)), .int x4] (st) h Q) ∧
  (∀ (x0 : Nat) (x1 : Nat) (x2 : Int32) (x3 : Int32) (x4 : Int32) (st : List Value) (h : AH) (Q : Option Value → AH → Prop), WP 70 92 [.ref x0, .ref x1, .int x2, .int x3, .int x4] (st) h Q ↔ WP 70 11 [.ref x0, .ref x1, .int x2, .int x3, .int x4] (st) h Q) ∧
  (∀ (x0 : Nat) (x1 : Nat) (x2 : Int32) (x3 : Int32) (x4 : Value) (st : List Value) (h : AH) (Q : Option Value → AH → Prop), WP 70 95 [.ref x0, .ref x1, .int x2, .int x3, x4] (st) h Q ↔ WP 70 96 [.ref x0, .ref x1, .int x2, .int x3, x4] (.int x2 :: st) h Q) ∧
  (∀ (x0 : Nat) (x1 : Nat) (x2 : Int32) (x3 : Int32) (x4 : Value) (y0 : Int32) (st : List Value) (h : AH) (Q : Option Value → AH → Prop), WP 70 96 [.ref x0, .ref x1, .int x2, .int x3, x4] (.int y0 :: st) h Q ↔ ((y0 ≤ 0 → WP 70 111 [.ref x0, .ref x1, .int x2, .int x3, x4] (st) h Q) ∧ (¬ y0 ≤ 0 → WP 70 99 [.ref x0, .ref x1, .int x2, .int x3, x4] (st) h Q))) ∧
  (∀ (x0 : Nat) (x1 : Nat) (x2 : Int32) (x3 : Int32) (x4 : Value) (st : List Value) (h : AH) (Q : Option Value → AH → Prop), WP 70 99 [.ref x0, .ref x1, .int x2, .int x3, x4] (st) h Q ↔ WP 70 100 [.ref x0, .ref x1, .int x2, .int x3, x4] (.ref x0 :: st) h Q) ∧
  (∀ (x0 : Nat) (x1 : Nat) (x2 : Int32) (x3 : Int32) (x4 : Value) (y0 : Nat) (st : List Value) (h : AH) (Q : Option Value → AH → Prop) (ht : hT h y0 = 8), WP 70 100 [.ref x0, .ref x1, .int x2, .int x3, x4] (.ref y0 :: st) h Q ↔ WP 70 103 [.ref x0, .ref x1, .int x2, .int x3, x4] (.ref (hR h y0 0) :: st) h Q) ∧
  (∀ (x0 : Nat) (x1 : Nat) (x2 : Int32) (x3 : Int32) (x4 : Value) (y0 : Nat) (st : List Value) (h : AH) (Q : Option Value → AH → Prop) (ht : hT h y0 = 11), WP 70 103 [.ref x0, .ref x1, .int x2, .int x3, x4] (.ref y0 :: st) h Q ↔ WP 70 106 [.ref x0, .ref x1, .int x2, .int x3, x4] (.int (hI h y0 4) :: st) h Q) ∧
  (∀ (x0 : Nat) (x1 : Nat) (x2 : Int32) (x3 : Int32) (x4 : Value) (st : List Value) (h : AH) (Q : Option Value → AH → Prop), WP 70 106 [.ref x0, .ref x1, .int x2, .int x3, x4] (st) h Q ↔ WP 70 108 [.ref x0, .ref x1, .int x2, .int x3, x4] (.int (9) :: st) h Q) ∧
  (∀ (x0 : Nat) (x1 : Nat) (x2 : Int32) (x3 : Int32) (x4 : Value) (y0 : Int32) (y1 : Int32) (st : List Value) (h : AH) (Q : Option Value → AH → Prop), WP 70 108 [.ref x0, .ref x1, .int x2, .int x3, x4] (.int y0 :: .int y1 :: st) h Q ↔ ((y1 = y0 → WP 70 119 [.ref x0, .ref x1, .int x2, .int x3, x4] (st) h Q) ∧ (¬ y1 = y0 → WP 70 111 [.ref x0, .ref x1, .int x2, .int x3, x4] (st) h Q))) ∧
  (∀ (x0 : Nat) (x1 : Nat) (x2 : Int32) (x3 : Int32) (x4 : Value) (st : List Value) (h : AH) (Q : Option Value → AH → Prop), WP 70 111 [.ref x0, .ref x1, .int x2, .int x3, x4] (st) h Q ↔ WP 70 112 [.ref x0, .ref x1, .int x2, .int x3, x4] (.ref x0 :: st) h Q) ∧
  (∀ (x0 : Nat) (x1 : Nat) (x2 : Int32) (x3 : Int32) (x4 : Value) (st : List Value) (h : AH) (Q : Option Value → AH → Prop), WP 70 112 [.ref x0, .ref x1, .int x2, .int x3, x4] (st) h Q ↔ WP 70 113 [.ref x0, .ref x1, .int x2, .int x3, x4] (.int (1) :: st) h Q) ∧
  (∀ (x0 : Nat) (x1 : Nat) (x2 : Int32) (x3 : Int32) (x4 : Value) (y1 : Nat) (y0 : Int32) (h : AH) (Q : Option Value → AH → Prop) (ht : hT h y1 = 8), WP 70 113 [.ref x0, .ref x1, .int x2, .int x3, x4] ([.int y0, .ref y1]) h Q ↔ WPM 63 [.ref y1, .int y0] h (fun r h' => WP 70 116 [.ref x0, .ref x1, .int x2, .int x3, x4] (r.toList ++ []) h' Q)) ∧
  (∀ (x0 : Nat) (x1 : Nat) (x2 : Int32) (x3 : Int32) (x4 : Value) (y0 : Int32) (st : List Value) (h : AH) (Q : Option Value → AH → Prop), WP 70 116 [.ref x0, .ref x1, .int x2, .int x3, x4] (.int y0 :: st) h Q ↔ ((y0 = 0 → WP 70 123 [.ref x0, .ref x1, .int x2, .int x3, x4] (st) h Q) ∧ (¬ y0 = 0 → WP 70 119 [.ref x0, .ref x1, .int x2, .int x3, x4] (st) h Q))) ∧
  (∀ (x0 : Nat) (x1 : Nat) (x2 : Int32) (x3 : Int32) (x4 : Value) (st : List Value) (h : AH) (Q : Option Value → AH → Prop), WP 70 119 [.ref x0, .ref x1, .int x2, .int x3, x4] (st) h Q ↔ WP 70 120 [.ref x0, .ref x1, .int x2, .int x3, x4] (.int (1) :: st) h Q) ∧
  (∀ (x0 : Nat) (x1 : Nat) (x2 : Int32) (x3 : Int32) (x4 : Value) (st : List Value) (h : AH) (Q : Option Value → AH → Prop), WP 70 120 [.ref x0, .ref x1, .int x2, .int x3, x4] (st) h Q ↔ WP 70 124 [.ref x0, .ref x1, .int x2, .int x3, x4] (st) h Q) ∧
  (∀ (x0 : Nat) (x1 : Nat) (x2 : Int32) (x3 : Int32) (x4 : Value) (st : List Value) (h : AH) (Q : Option Value → AH → Prop), WP 70 123 [.ref x0, .ref x1, .int x2, .int x3, x4] (st) h Q ↔ WP 70 124 [.ref x0, .ref x1, .int x2, .int x3, x4] (.int (0) :: st) h Q) ∧
  (∀ (x0 : Nat) (x1 : Nat) (x2 : Int32) (x3 : Int32) (x4 : Value) (y0 : Int32) (h : AH) (Q : Option Value → AH → Prop) (hz : y0 = 0 ∨ y0 = 1), WP 70 124 [.ref x0, .ref x1, .int x2, .int x3, x4] ([.int y0]) h Q ↔ Q (some (.int y0)) h) :=
  ⟨fun _ _ _ _ _ _ _ _ => WP_s (show ct 70 79 = some (.iinc 2 1, 0, []) by decide +kernel) rfl,
  fun _ _ _ _ _ _ _ _ => WP_s (show ct 70 82 = some (.aload_n 0, 0, []) by decide +kernel) rfl,
  fun _ _ _ _ _ _ _ _ _ ht => WH_gR (show ct 70 83 = some (.getfield 12, 1, [7, 0, 2, 305]) by decide +kernel) ht,
  fun _ _ _ _ _ _ _ _ ht => WC_1 (show ct 70 86 = some (.invokevirtual 46, 3, [95, 1, 1, 11, 0, 647, 648, 649]) by decide +kernel) (Nat.le_of_ble_eq_true rfl) (Nat.le_of_ble_eq_true rfl) rfl rfl ht,
  fun _ _ _ _ _ _ _ _ => WP_s (show ct 70 89 = some (.iinc 3 1, 0, []) by decide +kernel) rfl,
  fun _ _ _ _ _ _ _ _ => WP_s (show ct 70 92 = some (.goto (-81), 0, [11]) by decide +kernel) rfl,
  fun _ _ _ _ _ _ _ _ => WP_s (show ct 70 95 = some (.iload_n 2, 0, []) by decide +kernel) rfl,
  fun _ _ _ _ _ _ _ _ _ => WZ_le (show ct 70 96 = some (.ifCond .le 15, 0, [111]) by decide +kernel) (by decide),
  fun _ _ _ _ _ _ _ _ => WP_s (show ct 70 99 = some (.aload_n 0, 0, []) by decide +kernel) rfl,
  fun _ _ _ _ _ _ _ _ _ ht => WH_gR (show ct 70 100 = some (.getfield 12, 1, [7, 0, 2, 305]) by decide +kernel) ht,
  fun _ _ _ _ _ _ _ _ _ ht => WH_gI (show ct 70 103 = some (.getfield 49, 1, [10, 4, 0, 285]) by decide +kernel) (by decide) ht,
  fun _ _ _ _ _ _ _ _ => WP_s (show ct 70 106 = some (.bipush 9, 0, []) by decide +kernel) rfl,
  fun _ _ _ _ _ _ _ _ _ _ => WI_eq (show ct 70 108 = some (.if_icmp .eq 11, 0, [119]) by decide +kernel) (by decide),
  fun _ _ _ _ _ _ _ _ => WP_s (show ct 70 111 = some (.aload_n 0, 0, []) by decide +kernel) rfl,
  fun _ _ _ _ _ _ _ _ => WP_s (show ct 70 112 = some (.iconst 1, 0, []) by decide +kernel) rfl,
  fun _ _ _ _ _ _ _ _ _ ht => WC_1 (show ct 70 113 = some (.invokevirtual 30, 3, [63, 2, 1, 8, 0, 680, 682, 7]) by decide +kernel) (Nat.le_of_ble_eq_true rfl) (Nat.le_of_ble_eq_true rfl) rfl rfl ht,
  fun _ _ _ _ _ _ _ _ _ => WZ_eq (show ct 70 116 = some (.ifCond .eq 7, 0, [123]) by decide +kernel) (by decide),
  fun _ _ _ _ _ _ _ _ => WP_s (show ct 70 119 = some (.iconst 1, 0, []) by decide +kernel) rfl,
  fun _ _ _ _ _ _ _ _ => WP_s (show ct 70 120 = some (.goto 4, 0, [124]) by decide +kernel) rfl,
  fun _ _ _ _ _ _ _ _ => WP_s (show ct 70 123 = some (.iconst 0, 0, []) by decide +kernel) rfl,
  fun _ _ _ _ _ _ _ _ hz => WR_z (show ct 70 124 = some (.ireturn, 2, [1]) by decide +kernel) hz⟩
/-- all of 70 -/
def w70_n : Nat := 2
/-! 71: FewBowls$Reader.readPlan([BILFewBowls$Net;)Z; loop heads [14] -/
theorem w71_14 : ∀ (x0 : Nat) (x1 : Nat) (x2 : Int32) (x3 : Nat) (x4 : Int32) (st : List Value) (h : AH) (Q : Option Value → AH → Prop), WP 71 14 [.ref x0, .ref x1, .int x2, .ref x3, .int x4] (st) h Q ↔ WP 71 16 [.ref x0, .ref x1, .int x2, .ref x3, .int x4] (.int x4 :: st) h Q := fun _ _ _ _ _ _ _ _ => WP_s (show ct 71 14 = some (.iload 4, 0, []) by decide +kernel) rfl
set_option maxRecDepth 10000 in
theorem w71_a : (∀ (x0 : Nat) (x1 : Nat) (x2 : Int32) (x3 : Nat) (st : List Value) (h : AH) (Q : Option Value → AH → Prop), WP 71 0 [.ref x0, .ref x1, .int x2, .ref x3, .retAddr 0] (st) h Q ↔ WP 71 1 [.ref x0, .ref x1, .int x2, .ref x3, .retAddr 0] (.ref x0 :: st) h Q) ∧
  (∀ (x0 : Nat) (x1 : Nat) (x2 : Int32) (x3 : Nat) (st : List Value) (h : AH) (Q : Option Value → AH → Prop), WP 71 1 [.ref x0, .ref x1, .int x2, .ref x3, .retAddr 0] (st) h Q ↔ WP 71 2 [.ref x0, .ref x1, .int x2, .ref x3, .retAddr 0] (.ref x1 :: st) h Q) ∧
  (∀ (x0 : Nat) (x1 : Nat) (x2 : Int32) (x3 : Nat) (st : List Value) (h : AH) (Q : Option Value → AH → Prop), WP 71 2 [.ref x0, .ref x1, .int x2, .ref x3, .retAddr 0] (st) h Q ↔ WP 71 3 [.ref x0, .ref x1, .int x2, .ref x3, .retAddr 0] (.int x2 :: st) h Q) ∧
  (∀ (x0 : Nat) (x1 : Nat) (x2 : Int32) (x3 : Nat) (y2 : Nat) (y1 : Nat) (y0 : Int32) (h : AH) (Q : Option Value → AH → Prop) (ht : hT h y2 = 8), WP 71 3 [.ref x0, .ref x1, .int x2, .ref x3, .retAddr 0] ([.int y0, .ref y1, .ref y2]) h Q ↔ WPM 65 [.ref y2, .ref y1, .int y0] h (fun r h' => WP 71 6 [.ref x0, .ref x1, .int x2, .ref x3, .retAddr 0] (r.toList ++ []) h' Q)) ∧
  (∀ (x0 : Nat) (x1 : Nat) (x2 : Int32) (x3 : Nat) (st : List Value) (h : AH) (Q : Option Value → AH → Prop), WP 71 6 [.ref x0, .ref x1, .int x2, .ref x3, .retAddr 0] (st) h Q ↔ WP 71 7 [.ref x0, .ref x1, .int x2, .ref x3, .retAddr 0] (.ref x0 :: st) h Q) ∧
  (∀ (x0 : Nat) (x1 : Nat) (x2 : Int32) (x3 : Nat) (st : List Value) (h : AH) (Q : Option Value → AH → Prop), WP 71 7 [.ref x0, .ref x1, .int x2, .ref x3, .retAddr 0] (st) h Q ↔ WP 71 8 [.ref x0, .ref x1, .int x2, .ref x3, .retAddr 0] (.int (0) :: st) h Q) ∧
  (∀ (x0 : Nat) (x1 : Nat) (x2 : Int32) (x3 : Nat) (y0 : Int32) (y1 : Nat) (st : List Value) (h : AH) (Q : Option Value → AH → Prop) (ht : hT h y1 = 8), WP 71 8 [.ref x0, .ref x1, .int x2, .ref x3, .retAddr 0] (.int y0 :: .ref y1 :: st) h Q ↔ WP 71 11 [.ref x0, .ref x1, .int x2, .ref x3, .retAddr 0] (st) (sI h y1 2 y0) Q) ∧
  (∀ (x0 : Nat) (x1 : Nat) (x2 : Int32) (x3 : Nat) (st : List Value) (h : AH) (Q : Option Value → AH → Prop), WP 71 11 [.ref x0, .ref x1, .int x2, .ref x3, .retAddr 0] (st) h Q ↔ WP 71 12 [.ref x0, .ref x1, .int x2, .ref x3, .retAddr 0] (.int (0) :: st) h Q) ∧
  (∀ (x0 : Nat) (x1 : Nat) (x2 : Int32) (x3 : Nat) (y0 : Int32) (st : List Value) (h : AH) (Q : Option Value → AH → Prop), WP 71 12 [.ref x0, .ref x1, .int x2, .ref x3, .retAddr 0] (.int y0 :: st) h Q ↔ WP 71 14 [.ref x0, .ref x1, .int x2, .ref x3, .int y0] (st) h Q) ∧
  (∀ (x0 : Nat) (x1 : Nat) (x2 : Int32) (x3 : Nat) (x4 : Int32) (st : List Value) (h : AH) (Q : Option Value → AH → Prop), WP 71 16 [.ref x0, .ref x1, .int x2, .ref x3, .int x4] (st) h Q ↔ WP 71 19 [.ref x0, .ref x1, .int x2, .ref x3, .int x4] (.int (500) :: st) h Q) ∧
  (∀ (x0 : Nat) (x1 : Nat) (x2 : Int32) (x3 : Nat) (x4 : Int32) (y0 : Int32) (y1 : Int32) (st : List Value) (h : AH) (Q : Option Value → AH → Prop), WP 71 19 [.ref x0, .ref x1, .int x2, .ref x3, .int x4] (.int y0 :: .int y1 :: st) h Q ↔ ((y0 < y1 → WP 71 81 [.ref x0, .ref x1, .int x2, .ref x3, .int x4] (st) h Q) ∧ (¬ y0 < y1 → WP 71 22 [.ref x0, .ref x1, .int x2, .ref x3, .int x4] (st) h Q))) ∧
  (∀ (x0 : Nat) (x1 : Nat) (x2 : Int32) (x3 : Nat) (x4 : Int32) (st : List Value) (h : AH) (Q : Option Value → AH → Prop), WP 71 22 [.ref x0, .ref x1, .int x2, .ref x3, .int x4] (st) h Q ↔ WP 71 23 [.ref x0, .ref x1, .int x2, .ref x3, .int x4] (.ref x0 :: st) h Q) ∧
  (∀ (x0 : Nat) (x1 : Nat) (x2 : Int32) (x3 : Nat) (x4 : Int32) (y0 : Nat) (st : List Value) (h : AH) (Q : Option Value → AH → Prop) (ht : hT h y0 = 8), WP 71 23 [.ref x0, .ref x1, .int x2, .ref x3, .int x4] (.ref y0 :: st) h Q ↔ WP 71 26 [.ref x0, .ref x1, .int x2, .ref x3, .int x4] (.ref (hR h y0 0) :: st) h Q) ∧
  (∀ (x0 : Nat) (x1 : Nat) (x2 : Int32) (x3 : Nat) (x4 : Int32) (y0 : Nat) (h : AH) (Q : Option Value → AH → Prop) (ht : hT h y0 = 11), WP 71 26 [.ref x0, .ref x1, .int x2, .ref x3, .int x4] ([.ref y0]) h Q ↔ WPM 95 [.ref y0] h (fun r h' => WP 71 29 [.ref x0, .ref x1, .int x2, .ref x3, .int x4] (r.toList ++ []) h' Q)) ∧
  (∀ (x0 : Nat) (x1 : Nat) (x2 : Int32) (x3 : Nat) (x4 : Int32) (st : List Value) (h : AH) (Q : Option Value → AH → Prop), WP 71 29 [.ref x0, .ref x1, .int x2, .ref x3, .int x4] (st) h Q ↔ WP 71 30 [.ref x0, .ref x1, .int x2, .ref x3, .int x4] (.ref x0 :: st) h Q) ∧
  (∀ (x0 : Nat) (x1 : Nat) (x2 : Int32) (x3 : Nat) (x4 : Int32) (y0 : Nat) (st : List Value) (h : AH) (Q : Option Value → AH → Prop) (ht : hT h y0 = 8), WP 71 30 [.ref x0, .ref x1, .int x2, .ref x3, .int x4] (.ref y0 :: st) h Q ↔ WP 71 33 [.ref x0, .ref x1, .int x2, .ref x3, .int x4] (.ref (hR h y0 0) :: st) h Q) ∧
  (∀ (x0 : Nat) (x1 : Nat) (x2 : Int32) (x3 : Nat) (x4 : Int32) (y0 : Nat) (st : List Value) (h : AH) (Q : Option Value → AH → Prop) (ht : hT h y0 = 11), WP 71 33 [.ref x0, .ref x1, .int x2, .ref x3, .int x4] (.ref y0 :: st) h Q ↔ WP 71 36 [.ref x0, .ref x1, .int x2, .ref x3, .int x4] (.int (hI h y0 4) :: st) h Q) ∧
  (∀ (x0 : Nat) (x1 : Nat) (x2 : Int32) (x3 : Nat) (x4 : Int32) (st : List Value) (h : AH) (Q : Option Value → AH → Prop), WP 71 36 [.ref x0, .ref x1, .int x2, .ref x3, .int x4] (st) h Q ↔ WP 71 38 [.ref x0, .ref x1, .int x2, .ref x3, .int x4] (.int (10) :: st) h Q) ∧
  (∀ (x0 : Nat) (x1 : Nat) (x2 : Int32) (x3 : Nat) (x4 : Int32) (y0 : Int32) (y1 : Int32) (st : List Value) (h : AH) (Q : Option Value → AH → Prop), WP 71 38 [.ref x0, .ref x1, .int x2, .ref x3, .int x4] (.int y0 :: .int y1 :: st) h Q ↔ ((¬ y1 = y0 → WP 71 65 [.ref x0, .ref x1, .int x2, .ref x3, .int x4] (st) h Q) ∧ (y1 = y0 → WP 71 41 [.ref x0, .ref x1, .int x2, .ref x3, .int x4] (st) h Q))) ∧
  (∀ (x0 : Nat) (x1 : Nat) (x2 : Int32) (x3 : Nat) (x4 : Int32) (st : List Value) (h : AH) (Q : Option Value → AH → Prop), WP 71 41 [.ref x0, .ref x1, .int x2, .ref x3, .int x4] (st) h Q ↔ WP 71 42 [.ref x0, .ref x1, .int x2, .ref x3, .int x4] (.ref x0 :: st) h Q) ∧
  (∀ (x0 : Nat) (x1 : Nat) (x2 : Int32) (x3 : Nat) (x4 : Int32) (y0 : Nat) (st : List Value) (h : AH) (Q : Option Value → AH → Prop) (ht : hT h y0 = 8), WP 71 42 [.ref x0, .ref x1, .int x2, .ref x3, .int x4] (.ref y0 :: st) h Q ↔ WP 71 45 [.ref x0, .ref x1, .int x2, .ref x3, .int x4] (.ref (hR h y0 0) :: st) h Q) ∧
  (∀ (x0 : Nat) (x1 : Nat) (x2 : Int32) (x3 : Nat) (x4 : Int32) (y0 : Nat) (h : AH) (Q : Option Value → AH → Prop) (ht : hT h y0 = 11), WP 71 45 [.ref x0, .ref x1, .int x2, .ref x3, .int x4] ([.ref y0]) h Q ↔ WPM 94 [.ref y0] h (fun r h' => WP 71 48 [.ref x0, .ref x1, .int x2, .ref x3, .int x4] (r.toList ++ []) h' Q)) ∧
  (∀ (x0 : Nat) (x1 : Nat) (x2 : Int32) (x3 : Nat) (x4 : Int32) (y0 : Int32) (st : List Value) (h : AH) (Q : Option Value → AH → Prop), WP 71 48 [.ref x0, .ref x1, .int x2, .ref x3, .int x4] (.int y0 :: st) h Q ↔ ((y0 = 0 → WP 71 59 [.ref x0, .ref x1, .int x2, .ref x3, .int x4] (st) h Q) ∧ (¬ y0 = 0 → WP 71 51 [.ref x0, .ref x1, .int x2, .ref x3, .int x4] (st) h Q))) ∧
  (∀ (x0 : Nat) (x1 : Nat) (x2 : Int32) (x3 : Nat) (x4 : Int32) (st : List Value) (h : AH) (Q : Option Value → AH → Prop), WP 71 51 [.ref x0, .ref x1, .int x2, .ref x3, .int x4] (st) h Q ↔ WP 71 52 [.ref x0, .ref x1, .int x2, .ref x3, .int x4] (.ref x0 :: st) h Q) ∧
  (∀ (x0 : Nat) (x1 : Nat) (x2 : Int32) (x3 : Nat) (x4 : Int32) (st : List Value) (h : AH) (Q : Option Value → AH → Prop), WP 71 52 [.ref x0, .ref x1, .int x2, .ref x3, .int x4] (st) h Q ↔ WP 71 53 [.ref x0, .ref x1, .int x2, .ref x3, .int x4] (.int (1) :: st) h Q) ∧
  (∀ (x0 : Nat) (x1 : Nat) (x2 : Int32) (x3 : Nat) (x4 : Int32) (y1 : Nat) (y0 : Int32) (h : AH) (Q : Option Value → AH → Prop) (ht : hT h y1 = 8), WP 71 53 [.ref x0, .ref x1, .int x2, .ref x3, .int x4] ([.int y0, .ref y1]) h Q ↔ WPM 63 [.ref y1, .int y0] h (fun r h' => WP 71 56 [.ref x0, .ref x1, .int x2, .ref x3, .int x4] (r.toList ++ []) h' Q)) ∧
  (∀ (x0 : Nat) (x1 : Nat) (x2 : Int32) (x3 : Nat) (x4 : Int32) (y0 : Int32) (st : List Value) (h : AH) (Q : Option Value → AH → Prop), WP 71 56 [.ref x0, .ref x1, .int x2, .ref x3, .int x4] (.int y0 :: st) h Q ↔ ((y0 = 0 → WP 71 63 [.ref x0, .ref x1, .int x2, .ref x3, .int x4] (st) h Q) ∧ (¬ y0 = 0 → WP 71 59 [.ref x0, .ref x1, .int x2, .ref x3, .int x4] (st) h Q))) ∧
  (∀ (x0 : Nat) (x1 : Nat) (x2 : Int32) (x3 : Nat) (x4 : Int32) (st : List Value) (h : AH) (Q : Option Value → AH → Prop), WP 71 59 [.ref x0, .ref x1, .int x2, .ref x3, .int x4] (st) h Q ↔ WP 71 60 [.ref x0, .ref x1, .int x2, .ref x3, .int x4] (.int (1) :: st) h Q) ∧
  (∀ (x0 : Nat) (x1 : Nat) (x2 : Int32) (x3 : Nat) (x4 : Int32) (st : List Value) (h : AH) (Q : Option Value → AH → Prop), WP 71 60 [.ref x0, .ref x1, .int x2, .ref x3, .int x4] (st) h Q ↔ WP 71 64 [.ref x0, .ref x1, .int x2, .ref x3, .int x4] (st) h Q) ∧
  (∀ (x0 : Nat) (x1 : Nat) (x2 : Int32) (x3 : Nat) (x4 : Int32) (st : List Value) (h : AH) (Q : Option Value → AH → Prop), WP 71 63 [.ref x0, .ref x1, .int x2, .ref x3, .int x4] (st) h Q ↔ WP 71 64 [.ref x0, .ref x1, .int x2, .ref x3, .int x4] (.int (0) :: st) h Q) ∧
  (∀ (x0 : Nat) (x1 : Nat) (x2 : Int32) (x3 : Nat) (x4 : Int32) (y0 : Int32) (h : AH) (Q : Option Value → AH → Prop) (hz : y0 = 0 ∨ y0 = 1), WP 71 64 [.ref x0, .ref x1, .int x2, .ref x3, .int x4] ([.int y0]) h Q ↔ Q (some (.int y0)) h) ∧
  (∀ (x0 : Nat) (x1 : Nat) (x2 : Int32) (x3 : Nat) (x4 : Int32) (st : List Value) (h : AH) (Q : Option Value → AH → Prop), WP 71 65 [.ref x0, .ref x1, .int x2, .ref x3, .int x4] (st) h Q ↔ WP 71 66 [.ref x0, .ref x1, .int x2, .ref x3, .int x4] (.ref x0 :: st) h Q) ∧
  (∀ (x0 : Nat) (x1 : Nat) (x2 : Int32) (x3 : Nat) (x4 : Int32) (st : List Value) (h : AH) (Q : Option Value → AH → Prop), WP 71 66 [.ref x0, .ref x1, .int x2, .ref x3, .int x4] (st) h Q ↔ WP 71 67 [.ref x0, .ref x1, .int x2, .ref x3, .int x4] (.ref x3 :: st) h Q) ∧
  (∀ (x0 : Nat) (x1 : Nat) (x2 : Int32) (x3 : Nat) (x4 : Int32) (y1 : Nat) (y0 : Nat) (h : AH) (Q : Option Value → AH → Prop) (ht : hT h y1 = 8), WP 71 67 [.ref x0, .ref x1, .int x2, .ref x3, .int x4] ([.ref y0, .ref y1]) h Q ↔ WPM 72 [.ref y1, .ref y0] h (fun r h' => WP 71 70 [.ref x0, .ref x1, .int x2, .ref x3, .int x4] (r.toList ++ []) h' Q)) ∧
  (∀ (x0 : Nat) (x1 : Nat) (x2 : Int32) (x3 : Nat) (x4 : Int32) (y0 : Int32) (st : List Value) (h : AH) (Q : Option Value → AH → Prop), WP 71 70 [.ref x0, .ref x1, .int x2, .ref x3, .int x4] (.int y0 :: st) h Q ↔ ((¬ y0 = 0 → WP 71 75 [.ref x0, .ref x1, .int x2, .ref x3, .int x4] (st) h Q) ∧ (y0 = 0 → WP 71 73 [.ref x0, .ref x1, .int x2, .ref x3, .int x4] (st) h Q))) ∧
  (∀ (x0 : Nat) (x1 : Nat) (x2 : Int32) (x3 : Nat) (x4 : Int32) (st : List Value) (h : AH) (Q : Option Value → AH → Prop), WP 71 73 [.ref x0, .ref x1, .int x2, .ref x3, .int x4] (st) h Q ↔ WP 71 74 [.ref x0, .ref x1, .int x2, .ref x3, .int x4] (.int (0) :: st) h Q) ∧
  (∀ (x0 : Nat) (x1 : Nat) (x2 : Int32) (x3 : Nat) (x4 : Int32) (y0 : Int32) (h : AH) (Q : Option Value → AH → Prop) (hz : y0 = 0 ∨ y0 = 1), WP 71 74 [.ref x0, .ref x1, .int x2, .ref x3, .int x4] ([.int y0]) h Q ↔ Q (some (.int y0)) h) ∧
  (∀ (x0 : Nat) (x1 : Nat) (x2 : Int32) (x3 : Nat) (x4 : Int32) (st : List Value) (h : AH) (Q : Option Value → AH → Prop), WP 71 75 [.ref x0, .ref x1, .int x2, .ref x3, .int x4] (st) h Q ↔ WP 71 78 [.ref x0, .ref x1, .int x2, .ref x3, .int (x4 + (1))] (st) h Q) ∧
  (∀ (x0 : Nat) (x1 : Nat) (x2 : Int32) (x3 : Nat) (x4 : Int32) (st : List Value) (h : AH) (Q : Option Value → AH → Prop), WP 71 78 [.ref x0, .ref x1, .int x2, .ref x3, .int x4] (st) h Q ↔ WP 71 14 [.ref x0, .ref x1, .int x2, .ref x3, .int x4] (st) h Q) ∧
  (∀ (x0 : Nat) (x1 : Nat) (x2 : Int32) (x3 : Nat) (x4 : Int32) (st : List Value) (h : AH) (Q : Option Value → AH → Prop), WP 71 81 [.ref x0, .ref x1, .int x2, .ref x3, .int x4] (st) h Q ↔ WP 71 82 [.ref x0, .ref x1, .int x2, .ref x3, .int x4] (.ref x0 :: st) h Q) :=
  ⟨fun _ _ _ _ _ _ _ => WP_s (show ct 71 0 = some (.aload_n 0, 0, []) by decide +kernel) rfl,
  fun _ _ _ _ _ _ _ => WP_s (show ct 71 1 = some (.aload_n 1, 0, []) by decide +kernel) rfl,
  fun _ _ _ _ _ _ _ => WP_s (show ct 71 2 = some (.iload_n 2, 0, []) by decide +kernel) rfl,
  fun _ _ _ _ _ _ _ _ _ ht => WC_1 (show ct 71 3 = some (.invokevirtual 38, 3, [65, 3, 1, 8, 0, 632, 634, 2]) by decide +kernel) (Nat.le_of_ble_eq_true rfl) (Nat.le_of_ble_eq_true rfl) rfl rfl ht,
  fun _ _ _ _ _ _ _ => WP_s (show ct 71 6 = some (.aload_n 0, 0, []) by decide +kernel) rfl,
  fun _ _ _ _ _ _ _ => WP_s (show ct 71 7 = some (.iconst 0, 0, []) by decide +kernel) rfl,
  fun _ _ _ _ _ _ _ _ _ ht => WH_pI (show ct 71 8 = some (.putfield 96, 1, [7, 2, 0, 0, 308]) by decide +kernel) ht,
  fun _ _ _ _ _ _ _ => WP_s (show ct 71 11 = some (.iconst 0, 0, []) by decide +kernel) rfl,
  fun _ _ _ _ _ _ _ _ => WP_s (show ct 71 12 = some (.istore 4, 0, []) by decide +kernel) rfl,
  fun _ _ _ _ _ _ _ _ => WP_s (show ct 71 16 = some (.sipush 500, 0, []) by decide +kernel) rfl,
  fun _ _ _ _ _ _ _ _ _ _ => WI_gt (show ct 71 19 = some (.if_icmp .gt 62, 0, [81]) by decide +kernel) (by decide),
  fun _ _ _ _ _ _ _ _ => WP_s (show ct 71 22 = some (.aload_n 0, 0, []) by decide +kernel) rfl,
  fun _ _ _ _ _ _ _ _ _ ht => WH_gR (show ct 71 23 = some (.getfield 12, 1, [7, 0, 2, 305]) by decide +kernel) ht,
  fun _ _ _ _ _ _ _ _ ht => WC_1 (show ct 71 26 = some (.invokevirtual 46, 3, [95, 1, 1, 11, 0, 647, 648, 649]) by decide +kernel) (Nat.le_of_ble_eq_true rfl) (Nat.le_of_ble_eq_true rfl) rfl rfl ht,
  fun _ _ _ _ _ _ _ _ => WP_s (show ct 71 29 = some (.aload_n 0, 0, []) by decide +kernel) rfl,
  fun _ _ _ _ _ _ _ _ _ ht => WH_gR (show ct 71 30 = some (.getfield 12, 1, [7, 0, 2, 305]) by decide +kernel) ht,
  fun _ _ _ _ _ _ _ _ _ ht => WH_gI (show ct 71 33 = some (.getfield 49, 1, [10, 4, 0, 285]) by decide +kernel) (by decide) ht,
  fun _ _ _ _ _ _ _ _ => WP_s (show ct 71 36 = some (.bipush 10, 0, []) by decide +kernel) rfl,
  fun _ _ _ _ _ _ _ _ _ _ => WI_ne (show ct 71 38 = some (.if_icmp .ne 27, 0, [65]) by decide +kernel) (by decide),
  fun _ _ _ _ _ _ _ _ => WP_s (show ct 71 41 = some (.aload_n 0, 0, []) by decide +kernel) rfl,
  fun _ _ _ _ _ _ _ _ _ ht => WH_gR (show ct 71 42 = some (.getfield 12, 1, [7, 0, 2, 305]) by decide +kernel) ht,
  fun _ _ _ _ _ _ _ _ ht => WC_1 (show ct 71 45 = some (.invokevirtual 50, 3, [94, 1, 1, 11, 0, 676, 677, 678]) by decide +kernel) (Nat.le_of_ble_eq_true rfl) (Nat.le_of_ble_eq_true rfl) rfl rfl ht,
  fun _ _ _ _ _ _ _ _ _ => WZ_eq (show ct 71 48 = some (.ifCond .eq 11, 0, [59]) by decide +kernel) (by decide),
  fun _ _ _ _ _ _ _ _ => WP_s (show ct 71 51 = some (.aload_n 0, 0, []) by decide +kernel) rfl,
  fun _ _ _ _ _ _ _ _ => WP_s (show ct 71 52 = some (.iconst 1, 0, []) by decide +kernel) rfl,
  fun _ _ _ _ _ _ _ _ _ ht => WC_1 (show ct 71 53 = some (.invokevirtual 30, 3, [63, 2, 1, 8, 0, 680, 682, 7]) by decide +kernel) (Nat.le_of_ble_eq_true rfl) (Nat.le_of_ble_eq_true rfl) rfl rfl ht,
  fun _ _ _ _ _ _ _ _ _ => WZ_eq (show ct 71 56 = some (.ifCond .eq 7, 0, [63]) by decide +kernel) (by decide),
  fun _ _ _ _ _ _ _ _ => WP_s (show ct 71 59 = some (.iconst 1, 0, []) by decide +kernel) rfl,
  fun _ _ _ _ _ _ _ _ => WP_s (show ct 71 60 = some (.goto 4, 0, [64]) by decide +kernel) rfl,
  fun _ _ _ _ _ _ _ _ => WP_s (show ct 71 63 = some (.iconst 0, 0, []) by decide +kernel) rfl,
  fun _ _ _ _ _ _ _ _ hz => WR_z (show ct 71 64 = some (.ireturn, 2, [1]) by decide +kernel) hz,
  fun _ _ _ _ _ _ _ _ => WP_s (show ct 71 65 = some (.aload_n 0, 0, []) by decide +kernel) rfl,
  fun _ _ _ _ _ _ _ _ => WP_s (show ct 71 66 = some (.aload_n 3, 0, []) by decide +kernel) rfl,
  fun _ _ _ _ _ _ _ _ _ ht => WC_1 (show ct 71 67 = some (.invokevirtual 99, 3, [72, 2, 1, 8, 0, 1114, 1116, 51]) by decide +kernel) (Nat.le_of_ble_eq_true rfl) (Nat.le_of_ble_eq_true rfl) rfl rfl ht,
  fun _ _ _ _ _ _ _ _ _ => WZ_ne (show ct 71 70 = some (.ifCond .ne 5, 0, [75]) by decide +kernel) (by decide),
  fun _ _ _ _ _ _ _ _ => WP_s (show ct 71 73 = some (.iconst 0, 0, []) by decide +kernel) rfl,
  fun _ _ _ _ _ _ _ _ hz => WR_z (show ct 71 74 = some (.ireturn, 2, [1]) by decide +kernel) hz,
  fun _ _ _ _ _ _ _ _ => WP_s (show ct 71 75 = some (.iinc 4 1, 0, []) by decide +kernel) rfl,
  fun _ _ _ _ _ _ _ _ => WP_s (show ct 71 78 = some (.goto (-64), 0, [14]) by decide +kernel) rfl,
  fun _ _ _ _ _ _ _ _ => WP_s (show ct 71 81 = some (.aload_n 0, 0, []) by decide +kernel) rfl⟩
set_option maxRecDepth 10000 in
theorem w71_b : (∀ (x0 : Nat) (x1 : Nat) (x2 : Int32) (x3 : Nat) (x4 : Int32) (st : List Value) (h : AH) (Q : Option Value → AH → Prop), WP 71 82 [.ref x0, .ref x1, .int x2, .ref x3, .int x4] (st) h Q ↔ WP 71 83 [.ref x0, .ref x1, .int x2, .ref x3, .int x4] (.int (1) :: st) h Q) ∧
  (∀ (x0 : Nat) (x1 : Nat) (x2 : Int32) (x3 : Nat) (x4 : Int32) (y1 : Nat) (y0 : Int32) (h : AH) (Q : Option Value → AH → Prop) (ht : hT h y1 = 8), WP 71 83 [.ref x0, .ref x1, .int x2, .ref x3, .int x4] ([.int y0, .ref y1]) h Q ↔ WPM 63 [.ref y1, .int y0] h (fun r h' => WP 71 86 [.ref x0, .ref x1, .int x2, .ref x3, .int x4] (r.toList ++ []) h' Q)) ∧
  (∀ (x0 : Nat) (x1 : Nat) (x2 : Int32) (x3 : Nat) (x4 : Int32) (y0 : Int32) (h : AH) (Q : Option Value → AH → Prop) (hz : y0 = 0 ∨ y0 = 1), WP 71 86 [.ref x0, .ref x1, .int x2, .ref x3, .int x4] ([.int y0]) h Q ↔ Q (some (.int y0)) h) :=
  ⟨fun _ _ _ _ _ _ _ _ => WP_s (show ct 71 82 = some (.iconst 1, 0, []) by decide +kernel) rfl,
  fun _ _ _ _ _ _ _ _ _ ht => WC_1 (show ct 71 83 = some (.invokevirtual 30, 3, [63, 2, 1, 8, 0, 680, 682, 7]) by decide +kernel) (Nat.le_of_ble_eq_true rfl) (Nat.le_of_ble_eq_true rfl) rfl rfl ht,
  fun _ _ _ _ _ _ _ _ hz => WR_z (show ct 71 86 = some (.ireturn, 2, [1]) by decide +kernel) hz⟩
/-- all of 71 -/
def w71_n : Nat := 2
/-! 72: FewBowls$Reader.readAct(LFewBowls$Net;)Z; loop heads [] -/
set_option maxRecDepth 10000 in
theorem w72_a : (∀ (x0 : Nat) (x1 : Nat) (st : List Value) (h : AH) (Q : Option Value → AH → Prop), WP 72 0 [.ref x0, .ref x1, .retAddr 0, .retAddr 0, .retAddr 0, .retAddr 0] (st) h Q ↔ WP 72 1 [.ref x0, .ref x1, .retAddr 0, .retAddr 0, .retAddr 0, .retAddr 0] (.ref x0 :: st) h Q) ∧
  (∀ (x0 : Nat) (x1 : Nat) (y0 : Nat) (st : List Value) (h : AH) (Q : Option Value → AH → Prop) (ht : hT h y0 = 8), WP 72 1 [.ref x0, .ref x1, .retAddr 0, .retAddr 0, .retAddr 0, .retAddr 0] (.ref y0 :: st) h Q ↔ WP 72 4 [.ref x0, .ref x1, .retAddr 0, .retAddr 0, .retAddr 0, .retAddr 0] (.ref (hR h y0 0) :: st) h Q) ∧
  (∀ (x0 : Nat) (x1 : Nat) (y0 : Nat) (st : List Value) (h : AH) (Q : Option Value → AH → Prop) (ht : hT h y0 = 11), WP 72 4 [.ref x0, .ref x1, .retAddr 0, .retAddr 0, .retAddr 0, .retAddr 0] (.ref y0 :: st) h Q ↔ WP 72 7 [.ref x0, .ref x1, .retAddr 0, .retAddr 0, .retAddr 0, .retAddr 0] (.int (hI h y0 4) :: st) h Q) ∧
  (∀ (x0 : Nat) (x1 : Nat) (y0 : Int32) (st : List Value) (h : AH) (Q : Option Value → AH → Prop), WP 72 7 [.ref x0, .ref x1, .retAddr 0, .retAddr 0, .retAddr 0, .retAddr 0] (.int y0 :: st) h Q ↔ WP 72 8 [.ref x0, .ref x1, .int y0, .retAddr 0, .retAddr 0, .retAddr 0] (st) h Q) ∧
  (∀ (x0 : Nat) (x1 : Nat) (x2 : Int32) (st : List Value) (h : AH) (Q : Option Value → AH → Prop), WP 72 8 [.ref x0, .ref x1, .int x2, .retAddr 0, .retAddr 0, .retAddr 0] (st) h Q ↔ WP 72 9 [.ref x0, .ref x1, .int x2, .retAddr 0, .retAddr 0, .retAddr 0] (.int x2 :: st) h Q) ∧
  (∀ (x0 : Nat) (x1 : Nat) (x2 : Int32) (st : List Value) (h : AH) (Q : Option Value → AH → Prop), WP 72 9 [.ref x0, .ref x1, .int x2, .retAddr 0, .retAddr 0, .retAddr 0] (st) h Q ↔ WP 72 10 [.ref x0, .ref x1, .int x2, .retAddr 0, .retAddr 0, .retAddr 0] (.int (1) :: st) h Q) ∧
  (∀ (x0 : Nat) (x1 : Nat) (x2 : Int32) (y0 : Int32) (y1 : Int32) (st : List Value) (h : AH) (Q : Option Value → AH → Prop), WP 72 10 [.ref x0, .ref x1, .int x2, .retAddr 0, .retAddr 0, .retAddr 0] (.int y0 :: .int y1 :: st) h Q ↔ ((y1 = y0 → WP 72 24 [.ref x0, .ref x1, .int x2, .retAddr 0, .retAddr 0, .retAddr 0] (st) h Q) ∧ (¬ y1 = y0 → WP 72 13 [.ref x0, .ref x1, .int x2, .retAddr 0, .retAddr 0, .retAddr 0] (st) h Q))) ∧
  (∀ (x0 : Nat) (x1 : Nat) (x2 : Int32) (st : List Value) (h : AH) (Q : Option Value → AH → Prop), WP 72 13 [.ref x0, .ref x1, .int x2, .retAddr 0, .retAddr 0, .retAddr 0] (st) h Q ↔ WP 72 14 [.ref x0, .ref x1, .int x2, .retAddr 0, .retAddr 0, .retAddr 0] (.int x2 :: st) h Q) ∧
  (∀ (x0 : Nat) (x1 : Nat) (x2 : Int32) (st : List Value) (h : AH) (Q : Option Value → AH → Prop), WP 72 14 [.ref x0, .ref x1, .int x2, .retAddr 0, .retAddr 0, .retAddr 0] (st) h Q ↔ WP 72 15 [.ref x0, .ref x1, .int x2, .retAddr 0, .retAddr 0, .retAddr 0] (.int (5) :: st) h Q) ∧
  (∀ (x0 : Nat) (x1 : Nat) (x2 : Int32) (y0 : Int32) (y1 : Int32) (st : List Value) (h : AH) (Q : Option Value → AH → Prop), WP 72 15 [.ref x0, .ref x1, .int x2, .retAddr 0, .retAddr 0, .retAddr 0] (.int y0 :: .int y1 :: st) h Q ↔ ((y1 = y0 → WP 72 24 [.ref x0, .ref x1, .int x2, .retAddr 0, .retAddr 0, .retAddr 0] (st) h Q) ∧ (¬ y1 = y0 → WP 72 18 [.ref x0, .ref x1, .int x2, .retAddr 0, .retAddr 0, .retAddr 0] (st) h Q))) ∧
  (∀ (x0 : Nat) (x1 : Nat) (x2 : Int32) (st : List Value) (h : AH) (Q : Option Value → AH → Prop), WP 72 18 [.ref x0, .ref x1, .int x2, .retAddr 0, .retAddr 0, .retAddr 0] (st) h Q ↔ WP 72 19 [.ref x0, .ref x1, .int x2, .retAddr 0, .retAddr 0, .retAddr 0] (.ref x0 :: st) h Q) ∧
  (∀ (x0 : Nat) (x1 : Nat) (x2 : Int32) (st : List Value) (h : AH) (Q : Option Value → AH → Prop), WP 72 19 [.ref x0, .ref x1, .int x2, .retAddr 0, .retAddr 0, .retAddr 0] (st) h Q ↔ WP 72 20 [.ref x0, .ref x1, .int x2, .retAddr 0, .retAddr 0, .retAddr 0] (.int (1) :: st) h Q) ∧
  (∀ (x0 : Nat) (x1 : Nat) (x2 : Int32) (y1 : Nat) (y0 : Int32) (h : AH) (Q : Option Value → AH → Prop) (ht : hT h y1 = 8), WP 72 20 [.ref x0, .ref x1, .int x2, .retAddr 0, .retAddr 0, .retAddr 0] ([.int y0, .ref y1]) h Q ↔ WPM 63 [.ref y1, .int y0] h (fun r h' => WP 72 23 [.ref x0, .ref x1, .int x2, .retAddr 0, .retAddr 0, .retAddr 0] (r.toList ++ []) h' Q)) ∧
  (∀ (x0 : Nat) (x1 : Nat) (x2 : Int32) (y0 : Int32) (h : AH) (Q : Option Value → AH → Prop) (hz : y0 = 0 ∨ y0 = 1), WP 72 23 [.ref x0, .ref x1, .int x2, .retAddr 0, .retAddr 0, .retAddr 0] ([.int y0]) h Q ↔ Q (some (.int y0)) h) ∧
  (∀ (x0 : Nat) (x1 : Nat) (x2 : Int32) (st : List Value) (h : AH) (Q : Option Value → AH → Prop), WP 72 24 [.ref x0, .ref x1, .int x2, .retAddr 0, .retAddr 0, .retAddr 0] (st) h Q ↔ WP 72 25 [.ref x0, .ref x1, .int x2, .retAddr 0, .retAddr 0, .retAddr 0] (.ref x0 :: st) h Q) ∧
  (∀ (x0 : Nat) (x1 : Nat) (x2 : Int32) (y0 : Nat) (st : List Value) (h : AH) (Q : Option Value → AH → Prop) (ht : hT h y0 = 8), WP 72 25 [.ref x0, .ref x1, .int x2, .retAddr 0, .retAddr 0, .retAddr 0] (.ref y0 :: st) h Q ↔ WP 72 28 [.ref x0, .ref x1, .int x2, .retAddr 0, .retAddr 0, .retAddr 0] (.int (hI h y0 2) :: st) h Q) ∧
  (∀ (x0 : Nat) (x1 : Nat) (x2 : Int32) (st : List Value) (h : AH) (Q : Option Value → AH → Prop), WP 72 28 [.ref x0, .ref x1, .int x2, .retAddr 0, .retAddr 0, .retAddr 0] (st) h Q ↔ WP 72 30 [.ref x0, .ref x1, .int x2, .retAddr 0, .retAddr 0, .retAddr 0] (.int (60) :: st) h Q) ∧
  (∀ (x0 : Nat) (x1 : Nat) (x2 : Int32) (y0 : Int32) (y1 : Int32) (st : List Value) (h : AH) (Q : Option Value → AH → Prop), WP 72 30 [.ref x0, .ref x1, .int x2, .retAddr 0, .retAddr 0, .retAddr 0] (.int y0 :: .int y1 :: st) h Q ↔ ((y1 < y0 → WP 72 39 [.ref x0, .ref x1, .int x2, .retAddr 0, .retAddr 0, .retAddr 0] (st) h Q) ∧ (¬ y1 < y0 → WP 72 33 [.ref x0, .ref x1, .int x2, .retAddr 0, .retAddr 0, .retAddr 0] (st) h Q))) ∧
  (∀ (x0 : Nat) (x1 : Nat) (x2 : Int32) (st : List Value) (h : AH) (Q : Option Value → AH → Prop), WP 72 33 [.ref x0, .ref x1, .int x2, .retAddr 0, .retAddr 0, .retAddr 0] (st) h Q ↔ WP 72 34 [.ref x0, .ref x1, .int x2, .retAddr 0, .retAddr 0, .retAddr 0] (.ref x0 :: st) h Q) ∧
  (∀ (x0 : Nat) (x1 : Nat) (x2 : Int32) (st : List Value) (h : AH) (Q : Option Value → AH → Prop), WP 72 34 [.ref x0, .ref x1, .int x2, .retAddr 0, .retAddr 0, .retAddr 0] (st) h Q ↔ WP 72 35 [.ref x0, .ref x1, .int x2, .retAddr 0, .retAddr 0, .retAddr 0] (.int (4) :: st) h Q) ∧
  (∀ (x0 : Nat) (x1 : Nat) (x2 : Int32) (y1 : Nat) (y0 : Int32) (h : AH) (Q : Option Value → AH → Prop) (ht : hT h y1 = 8), WP 72 35 [.ref x0, .ref x1, .int x2, .retAddr 0, .retAddr 0, .retAddr 0] ([.int y0, .ref y1]) h Q ↔ WPM 63 [.ref y1, .int y0] h (fun r h' => WP 72 38 [.ref x0, .ref x1, .int x2, .retAddr 0, .retAddr 0, .retAddr 0] (r.toList ++ []) h' Q)) ∧
  (∀ (x0 : Nat) (x1 : Nat) (x2 : Int32) (y0 : Int32) (h : AH) (Q : Option Value → AH → Prop) (hz : y0 = 0 ∨ y0 = 1), WP 72 38 [.ref x0, .ref x1, .int x2, .retAddr 0, .retAddr 0, .retAddr 0] ([.int y0]) h Q ↔ Q (some (.int y0)) h) ∧
  (∀ (x0 : Nat) (x1 : Nat) (x2 : Int32) (st : List Value) (h : AH) (Q : Option Value → AH → Prop), WP 72 39 [.ref x0, .ref x1, .int x2, .retAddr 0, .retAddr 0, .retAddr 0] (st) h Q ↔ WP 72 40 [.ref x0, .ref x1, .int x2, .retAddr 0, .retAddr 0, .retAddr 0] (.ref x0 :: st) h Q) ∧
  (∀ (x0 : Nat) (x1 : Nat) (x2 : Int32) (st : List Value) (h : AH) (Q : Option Value → AH → Prop), WP 72 40 [.ref x0, .ref x1, .int x2, .retAddr 0, .retAddr 0, .retAddr 0] (st) h Q ↔ WP 72 41 [.ref x0, .ref x1, .int x2, .retAddr 0, .retAddr 0, .retAddr 0] (.ref x1 :: st) h Q) ∧
  (∀ (x0 : Nat) (x1 : Nat) (x2 : Int32) (y1 : Nat) (y0 : Nat) (h : AH) (Q : Option Value → AH → Prop) (ht : hT h y1 = 8), WP 72 41 [.ref x0, .ref x1, .int x2, .retAddr 0, .retAddr 0, .retAddr 0] ([.ref y0, .ref y1]) h Q ↔ WPM 73 [.ref y1, .ref y0] h (fun r h' => WP 72 44 [.ref x0, .ref x1, .int x2, .retAddr 0, .retAddr 0, .retAddr 0] (r.toList ++ []) h' Q)) ∧
  (∀ (x0 : Nat) (x1 : Nat) (x2 : Int32) (y0 : Int32) (st : List Value) (h : AH) (Q : Option Value → AH → Prop), WP 72 44 [.ref x0, .ref x1, .int x2, .retAddr 0, .retAddr 0, .retAddr 0] (.int y0 :: st) h Q ↔ WP 72 45 [.ref x0, .ref x1, .int x2, .int y0, .retAddr 0, .retAddr 0] (st) h Q) ∧
  (∀ (x0 : Nat) (x1 : Nat) (x2 : Int32) (x3 : Int32) (st : List Value) (h : AH) (Q : Option Value → AH → Prop), WP 72 45 [.ref x0, .ref x1, .int x2, .int x3, .retAddr 0, .retAddr 0] (st) h Q ↔ WP 72 46 [.ref x0, .ref x1, .int x2, .int x3, .retAddr 0, .retAddr 0] (.int x3 :: st) h Q) ∧
  (∀ (x0 : Nat) (x1 : Nat) (x2 : Int32) (x3 : Int32) (y0 : Int32) (st : List Value) (h : AH) (Q : Option Value → AH → Prop), WP 72 46 [.ref x0, .ref x1, .int x2, .int x3, .retAddr 0, .retAddr 0] (.int y0 :: st) h Q ↔ ((0 ≤ y0 → WP 72 51 [.ref x0, .ref x1, .int x2, .int x3, .retAddr 0, .retAddr 0] (st) h Q) ∧ (¬ 0 ≤ y0 → WP 72 49 [.ref x0, .ref x1, .int x2, .int x3, .retAddr 0, .retAddr 0] (st) h Q))) ∧
  (∀ (x0 : Nat) (x1 : Nat) (x2 : Int32) (x3 : Int32) (st : List Value) (h : AH) (Q : Option Value → AH → Prop), WP 72 49 [.ref x0, .ref x1, .int x2, .int x3, .retAddr 0, .retAddr 0] (st) h Q ↔ WP 72 50 [.ref x0, .ref x1, .int x2, .int x3, .retAddr 0, .retAddr 0] (.int (0) :: st) h Q) ∧
  (∀ (x0 : Nat) (x1 : Nat) (x2 : Int32) (x3 : Int32) (y0 : Int32) (h : AH) (Q : Option Value → AH → Prop) (hz : y0 = 0 ∨ y0 = 1), WP 72 50 [.ref x0, .ref x1, .int x2, .int x3, .retAddr 0, .retAddr 0] ([.int y0]) h Q ↔ Q (some (.int y0)) h) ∧
  (∀ (x0 : Nat) (x1 : Nat) (x2 : Int32) (x3 : Int32) (st : List Value) (h : AH) (Q : Option Value → AH → Prop), WP 72 51 [.ref x0, .ref x1, .int x2, .int x3, .retAddr 0, .retAddr 0] (st) h Q ↔ WP 72 52 [.ref x0, .ref x1, .int x2, .int x3, .retAddr 0, .retAddr 0] (.int x2 :: st) h Q) ∧
  (∀ (x0 : Nat) (x1 : Nat) (x2 : Int32) (x3 : Int32) (st : List Value) (h : AH) (Q : Option Value → AH → Prop), WP 72 52 [.ref x0, .ref x1, .int x2, .int x3, .retAddr 0, .retAddr 0] (st) h Q ↔ WP 72 53 [.ref x0, .ref x1, .int x2, .int x3, .retAddr 0, .retAddr 0] (.int (5) :: st) h Q) ∧
  (∀ (x0 : Nat) (x1 : Nat) (x2 : Int32) (x3 : Int32) (y0 : Int32) (y1 : Int32) (st : List Value) (h : AH) (Q : Option Value → AH → Prop), WP 72 53 [.ref x0, .ref x1, .int x2, .int x3, .retAddr 0, .retAddr 0] (.int y0 :: .int y1 :: st) h Q ↔ ((¬ y1 = y0 → WP 72 63 [.ref x0, .ref x1, .int x2, .int x3, .retAddr 0, .retAddr 0] (st) h Q) ∧ (y1 = y0 → WP 72 56 [.ref x0, .ref x1, .int x2, .int x3, .retAddr 0, .retAddr 0] (st) h Q))) ∧
  (∀ (x0 : Nat) (x1 : Nat) (x2 : Int32) (x3 : Int32) (st : List Value) (h : AH) (Q : Option Value → AH → Prop), WP 72 56 [.ref x0, .ref x1, .int x2, .int x3, .retAddr 0, .retAddr 0] (st) h Q ↔ WP 72 58 [.ref x0, .ref x1, .int x2, .int x3, .retAddr 0, .retAddr 0] (.int (20) :: st) h Q) ∧
  (∀ (x0 : Nat) (x1 : Nat) (x2 : Int32) (x3 : Int32) (st : List Value) (h : AH) (Q : Option Value → AH → Prop), WP 72 58 [.ref x0, .ref x1, .int x2, .int x3, .retAddr 0, .retAddr 0] (st) h Q ↔ WP 72 59 [.ref x0, .ref x1, .int x2, .int x3, .retAddr 0, .retAddr 0] (.int x3 :: st) h Q) ∧
  (∀ (x0 : Nat) (x1 : Nat) (x2 : Int32) (x3 : Int32) (y0 : Int32) (y1 : Int32) (st : List Value) (h : AH) (Q : Option Value → AH → Prop), WP 72 59 [.ref x0, .ref x1, .int x2, .int x3, .retAddr 0, .retAddr 0] (.int y0 :: .int y1 :: st) h Q ↔ WP 72 60 [.ref x0, .ref x1, .int x2, .int x3, .retAddr 0, .retAddr 0] (.int (y1 + y0) :: st) h Q) ∧
  (∀ (x0 : Nat) (x1 : Nat) (x2 : Int32) (x3 : Int32) (st : List Value) (h : AH) (Q : Option Value → AH → Prop), WP 72 60 [.ref x0, .ref x1, .int x2, .int x3, .retAddr 0, .retAddr 0] (st) h Q ↔ WP 72 64 [.ref x0, .ref x1, .int x2, .int x3, .retAddr 0, .retAddr 0] (st) h Q) ∧
  (∀ (x0 : Nat) (x1 : Nat) (x2 : Int32) (x3 : Int32) (st : List Value) (h : AH) (Q : Option Value → AH → Prop), WP 72 63 [.ref x0, .ref x1, .int x2, .int x3, .retAddr 0, .retAddr 0] (st) h Q ↔ WP 72 64 [.ref x0, .ref x1, .int x2, .int x3, .retAddr 0, .retAddr 0] (.int x3 :: st) h Q) ∧
  (∀ (x0 : Nat) (x1 : Nat) (x2 : Int32) (x3 : Int32) (y0 : Int32) (st : List Value) (h : AH) (Q : Option Value → AH → Prop), WP 72 64 [.ref x0, .ref x1, .int x2, .int x3, .retAddr 0, .retAddr 0] (.int y0 :: st) h Q ↔ WP 72 66 [.ref x0, .ref x1, .int x2, .int x3, .int y0, .retAddr 0] (st) h Q) ∧
  (∀ (x0 : Nat) (x1 : Nat) (x2 : Int32) (x3 : Int32) (x4 : Int32) (st : List Value) (h : AH) (Q : Option Value → AH → Prop), WP 72 66 [.ref x0, .ref x1, .int x2, .int x3, .int x4, .retAddr 0] (st) h Q ↔ WP 72 67 [.ref x0, .ref x1, .int x2, .int x3, .int x4, .retAddr 0] (.int x2 :: st) h Q) :=
  ⟨fun _ _ _ _ _ => WP_s (show ct 72 0 = some (.aload_n 0, 0, []) by decide +kernel) rfl,
  fun _ _ _ _ _ _ ht => WH_gR (show ct 72 1 = some (.getfield 12, 1, [7, 0, 2, 305]) by decide +kernel) ht,
  fun _ _ _ _ _ _ ht => WH_gI (show ct 72 4 = some (.getfield 49, 1, [10, 4, 0, 285]) by decide +kernel) (by decide) ht,
  fun _ _ _ _ _ _ => WP_s (show ct 72 7 = some (.istore_n 2, 0, []) by decide +kernel) rfl,
  fun _ _ _ _ _ _ => WP_s (show ct 72 8 = some (.iload_n 2, 0, []) by decide +kernel) rfl,
  fun _ _ _ _ _ _ => WP_s (show ct 72 9 = some (.iconst 1, 0, []) by decide +kernel) rfl,
  fun _ _ _ _ _ _ _ _ => WI_eq (show ct 72 10 = some (.if_icmp .eq 14, 0, [24]) by decide +kernel) (by decide),
  fun _ _ _ _ _ _ => WP_s (show ct 72 13 = some (.iload_n 2, 0, []) by decide +kernel) rfl,
  fun _ _ _ _ _ _ => WP_s (show ct 72 14 = some (.iconst 5, 0, []) by decide +kernel) rfl,
  fun _ _ _ _ _ _ _ _ => WI_eq (show ct 72 15 = some (.if_icmp .eq 9, 0, [24]) by decide +kernel) (by decide),
  fun _ _ _ _ _ _ => WP_s (show ct 72 18 = some (.aload_n 0, 0, []) by decide +kernel) rfl,
  fun _ _ _ _ _ _ => WP_s (show ct 72 19 = some (.iconst 1, 0, []) by decide +kernel) rfl,
  fun _ _ _ _ _ _ _ ht => WC_1 (show ct 72 20 = some (.invokevirtual 30, 3, [63, 2, 1, 8, 0, 680, 682, 7]) by decide +kernel) (Nat.le_of_ble_eq_true rfl) (Nat.le_of_ble_eq_true rfl) rfl rfl ht,
  fun _ _ _ _ _ _ hz => WR_z (show ct 72 23 = some (.ireturn, 2, [1]) by decide +kernel) hz,
  fun _ _ _ _ _ _ => WP_s (show ct 72 24 = some (.aload_n 0, 0, []) by decide +kernel) rfl,
  fun _ _ _ _ _ _ _ ht => WH_gI (show ct 72 25 = some (.getfield 96, 1, [7, 2, 0, 308]) by decide +kernel) (by decide) ht,
  fun _ _ _ _ _ _ => WP_s (show ct 72 28 = some (.bipush 60, 0, []) by decide +kernel) rfl,
  fun _ _ _ _ _ _ _ _ => WI_lt (show ct 72 30 = some (.if_icmp .lt 9, 0, [39]) by decide +kernel) (by decide),
  fun _ _ _ _ _ _ => WP_s (show ct 72 33 = some (.aload_n 0, 0, []) by decide +kernel) rfl,
  fun _ _ _ _ _ _ => WP_s (show ct 72 34 = some (.iconst 4, 0, []) by decide +kernel) rfl,
  fun _ _ _ _ _ _ _ ht => WC_1 (show ct 72 35 = some (.invokevirtual 30, 3, [63, 2, 1, 8, 0, 680, 682, 7]) by decide +kernel) (Nat.le_of_ble_eq_true rfl) (Nat.le_of_ble_eq_true rfl) rfl rfl ht,
  fun _ _ _ _ _ _ hz => WR_z (show ct 72 38 = some (.ireturn, 2, [1]) by decide +kernel) hz,
  fun _ _ _ _ _ _ => WP_s (show ct 72 39 = some (.aload_n 0, 0, []) by decide +kernel) rfl,
  fun _ _ _ _ _ _ => WP_s (show ct 72 40 = some (.aload_n 1, 0, []) by decide +kernel) rfl,
  fun _ _ _ _ _ _ _ ht => WC_1 (show ct 72 41 = some (.invokevirtual 102, 3, [73, 2, 1, 8, 0, 1118, 1120, 52]) by decide +kernel) (Nat.le_of_ble_eq_true rfl) (Nat.le_of_ble_eq_true rfl) rfl rfl ht,
  fun _ _ _ _ _ _ _ => WP_s (show ct 72 44 = some (.istore_n 3, 0, []) by decide +kernel) rfl,
  fun _ _ _ _ _ _ _ => WP_s (show ct 72 45 = some (.iload_n 3, 0, []) by decide +kernel) rfl,
  fun _ _ _ _ _ _ _ _ => WZ_ge (show ct 72 46 = some (.ifCond .ge 5, 0, [51]) by decide +kernel) (by decide),
  fun _ _ _ _ _ _ _ => WP_s (show ct 72 49 = some (.iconst 0, 0, []) by decide +kernel) rfl,
  fun _ _ _ _ _ _ _ hz => WR_z (show ct 72 50 = some (.ireturn, 2, [1]) by decide +kernel) hz,
  fun _ _ _ _ _ _ _ => WP_s (show ct 72 51 = some (.iload_n 2, 0, []) by decide +kernel) rfl,
  fun _ _ _ _ _ _ _ => WP_s (show ct 72 52 = some (.iconst 5, 0, []) by decide +kernel) rfl,
  fun _ _ _ _ _ _ _ _ _ => WI_ne (show ct 72 53 = some (.if_icmp .ne 10, 0, [63]) by decide +kernel) (by decide),
  fun _ _ _ _ _ _ _ => WP_s (show ct 72 56 = some (.bipush 20, 0, []) by decide +kernel) rfl,
  fun _ _ _ _ _ _ _ => WP_s (show ct 72 58 = some (.iload_n 3, 0, []) by decide +kernel) rfl,
  fun _ _ _ _ _ _ _ _ _ => WP_s (show ct 72 59 = some (.iadd, 0, []) by decide +kernel) rfl,
  fun _ _ _ _ _ _ _ => WP_s (show ct 72 60 = some (.goto 4, 0, [64]) by decide +kernel) rfl,
  fun _ _ _ _ _ _ _ => WP_s (show ct 72 63 = some (.iload_n 3, 0, []) by decide +kernel) rfl,
  fun _ _ _ _ _ _ _ _ => WP_s (show ct 72 64 = some (.istore 4, 0, []) by decide +kernel) rfl,
  fun _ _ _ _ _ _ _ _ => WP_s (show ct 72 66 = some (.iload_n 2, 0, []) by decide +kernel) rfl⟩
set_option maxRecDepth 10000 in
theorem w72_b : (∀ (x0 : Nat) (x1 : Nat) (x2 : Int32) (x3 : Int32) (x4 : Int32) (st : List Value) (h : AH) (Q : Option Value → AH → Prop), WP 72 67 [.ref x0, .ref x1, .int x2, .int x3, .int x4, .retAddr 0] (st) h Q ↔ WP 72 68 [.ref x0, .ref x1, .int x2, .int x3, .int x4, .retAddr 0] (.int (1) :: st) h Q) ∧
  (∀ (x0 : Nat) (x1 : Nat) (x2 : Int32) (x3 : Int32) (x4 : Int32) (y0 : Int32) (y1 : Int32) (st : List Value) (h : AH) (Q : Option Value → AH → Prop), WP 72 68 [.ref x0, .ref x1, .int x2, .int x3, .int x4, .retAddr 0] (.int y0 :: .int y1 :: st) h Q ↔ ((¬ y1 = y0 → WP 72 105 [.ref x0, .ref x1, .int x2, .int x3, .int x4, .retAddr 0] (st) h Q) ∧ (y1 = y0 → WP 72 71 [.ref x0, .ref x1, .int x2, .int x3, .int x4, .retAddr 0] (st) h Q))) ∧
  (∀ (x0 : Nat) (x1 : Nat) (x2 : Int32) (x3 : Int32) (x4 : Int32) (st : List Value) (h : AH) (Q : Option Value → AH → Prop), WP 72 71 [.ref x0, .ref x1, .int x2, .int x3, .int x4, .retAddr 0] (st) h Q ↔ WP 72 72 [.ref x0, .ref x1, .int x2, .int x3, .int x4, .retAddr 0] (.ref x0 :: st) h Q) ∧
  (∀ (x0 : Nat) (x1 : Nat) (x2 : Int32) (x3 : Int32) (x4 : Int32) (y0 : Nat) (st : List Value) (h : AH) (Q : Option Value → AH → Prop) (ht : hT h y0 = 8), WP 72 72 [.ref x0, .ref x1, .int x2, .int x3, .int x4, .retAddr 0] (.ref y0 :: st) h Q ↔ WP 72 75 [.ref x0, .ref x1, .int x2, .int x3, .int x4, .retAddr 0] (.ref (hR h y0 0) :: st) h Q) ∧
  (∀ (x0 : Nat) (x1 : Nat) (x2 : Int32) (x3 : Int32) (x4 : Int32) (y0 : Nat) (st : List Value) (h : AH) (Q : Option Value → AH → Prop) (ht : hT h y0 = 11), WP 72 75 [.ref x0, .ref x1, .int x2, .int x3, .int x4, .retAddr 0] (.ref y0 :: st) h Q ↔ WP 72 78 [.ref x0, .ref x1, .int x2, .int x3, .int x4, .retAddr 0] (.int (hI h y0 4) :: st) h Q) ∧
  (∀ (x0 : Nat) (x1 : Nat) (x2 : Int32) (x3 : Int32) (x4 : Int32) (st : List Value) (h : AH) (Q : Option Value → AH → Prop), WP 72 78 [.ref x0, .ref x1, .int x2, .int x3, .int x4, .retAddr 0] (st) h Q ↔ WP 72 80 [.ref x0, .ref x1, .int x2, .int x3, .int x4, .retAddr 0] (.int (6) :: st) h Q) ∧
  (∀ (x0 : Nat) (x1 : Nat) (x2 : Int32) (x3 : Int32) (x4 : Int32) (y0 : Int32) (y1 : Int32) (st : List Value) (h : AH) (Q : Option Value → AH → Prop), WP 72 80 [.ref x0, .ref x1, .int x2, .int x3, .int x4, .retAddr 0] (.int y0 :: .int y1 :: st) h Q ↔ ((¬ y1 = y0 → WP 72 105 [.ref x0, .ref x1, .int x2, .int x3, .int x4, .retAddr 0] (st) h Q) ∧ (y1 = y0 → WP 72 83 [.ref x0, .ref x1, .int x2, .int x3, .int x4, .retAddr 0] (st) h Q))) ∧
  (∀ (x0 : Nat) (x1 : Nat) (x2 : Int32) (x3 : Int32) (x4 : Int32) (st : List Value) (h : AH) (Q : Option Value → AH → Prop), WP 72 83 [.ref x0, .ref x1, .int x2, .int x3, .int x4, .retAddr 0] (st) h Q ↔ WP 72 84 [.ref x0, .ref x1, .int x2, .int x3, .int x4, .retAddr 0] (.ref x0 :: st) h Q) ∧
  (∀ (x0 : Nat) (x1 : Nat) (x2 : Int32) (x3 : Int32) (x4 : Int32) (st : List Value) (h : AH) (Q : Option Value → AH → Prop), WP 72 84 [.ref x0, .ref x1, .int x2, .int x3, .int x4, .retAddr 0] (st) h Q ↔ WP 72 85 [.ref x0, .ref x1, .int x2, .int x3, .int x4, .retAddr 0] (.ref x1 :: st) h Q) ∧
  (∀ (x0 : Nat) (x1 : Nat) (x2 : Int32) (x3 : Int32) (x4 : Int32) (y1 : Nat) (y0 : Nat) (h : AH) (Q : Option Value → AH → Prop) (ht : hT h y1 = 8), WP 72 85 [.ref x0, .ref x1, .int x2, .int x3, .int x4, .retAddr 0] ([.ref y0, .ref y1]) h Q ↔ WPM 73 [.ref y1, .ref y0] h (fun r h' => WP 72 88 [.ref x0, .ref x1, .int x2, .int x3, .int x4, .retAddr 0] (r.toList ++ []) h' Q)) ∧
  (∀ (x0 : Nat) (x1 : Nat) (x2 : Int32) (x3 : Int32) (x4 : Int32) (y0 : Int32) (st : List Value) (h : AH) (Q : Option Value → AH → Prop), WP 72 88 [.ref x0, .ref x1, .int x2, .int x3, .int x4, .retAddr 0] (.int y0 :: st) h Q ↔ WP 72 90 [.ref x0, .ref x1, .int x2, .int x3, .int x4, .int y0] (st) h Q) ∧
  (∀ (x0 : Nat) (x1 : Nat) (x2 : Int32) (x3 : Int32) (x4 : Int32) (x5 : Int32) (st : List Value) (h : AH) (Q : Option Value → AH → Prop), WP 72 90 [.ref x0, .ref x1, .int x2, .int x3, .int x4, .int x5] (st) h Q ↔ WP 72 92 [.ref x0, .ref x1, .int x2, .int x3, .int x4, .int x5] (.int x5 :: st) h Q) ∧
  (∀ (x0 : Nat) (x1 : Nat) (x2 : Int32) (x3 : Int32) (x4 : Int32) (x5 : Int32) (y0 : Int32) (st : List Value) (h : AH) (Q : Option Value → AH → Prop), WP 72 92 [.ref x0, .ref x1, .int x2, .int x3, .int x4, .int x5] (.int y0 :: st) h Q ↔ ((0 ≤ y0 → WP 72 97 [.ref x0, .ref x1, .int x2, .int x3, .int x4, .int x5] (st) h Q) ∧ (¬ 0 ≤ y0 → WP 72 95 [.ref x0, .ref x1, .int x2, .int x3, .int x4, .int x5] (st) h Q))) ∧
  (∀ (x0 : Nat) (x1 : Nat) (x2 : Int32) (x3 : Int32) (x4 : Int32) (x5 : Int32) (st : List Value) (h : AH) (Q : Option Value → AH → Prop), WP 72 95 [.ref x0, .ref x1, .int x2, .int x3, .int x4, .int x5] (st) h Q ↔ WP 72 96 [.ref x0, .ref x1, .int x2, .int x3, .int x4, .int x5] (.int (0) :: st) h Q) ∧
  (∀ (x0 : Nat) (x1 : Nat) (x2 : Int32) (x3 : Int32) (x4 : Int32) (x5 : Int32) (y0 : Int32) (h : AH) (Q : Option Value → AH → Prop) (hz : y0 = 0 ∨ y0 = 1), WP 72 96 [.ref x0, .ref x1, .int x2, .int x3, .int x4, .int x5] ([.int y0]) h Q ↔ Q (some (.int y0)) h) ∧
  (∀ (x0 : Nat) (x1 : Nat) (x2 : Int32) (x3 : Int32) (x4 : Int32) (x5 : Int32) (st : List Value) (h : AH) (Q : Option Value → AH → Prop), WP 72 97 [.ref x0, .ref x1, .int x2, .int x3, .int x4, .int x5] (st) h Q ↔ WP 72 98 [.ref x0, .ref x1, .int x2, .int x3, .int x4, .int x5] (.int x3 :: st) h Q) ∧
  (∀ (x0 : Nat) (x1 : Nat) (x2 : Int32) (x3 : Int32) (x4 : Int32) (x5 : Int32) (st : List Value) (h : AH) (Q : Option Value → AH → Prop), WP 72 98 [.ref x0, .ref x1, .int x2, .int x3, .int x4, .int x5] (st) h Q ↔ WP 72 100 [.ref x0, .ref x1, .int x2, .int x3, .int x4, .int x5] (.int x5 :: st) h Q) ∧
  (∀ (x0 : Nat) (x1 : Nat) (x2 : Int32) (x3 : Int32) (x4 : Int32) (x5 : Int32) (y1 : Int32) (y0 : Int32) (h : AH) (Q : Option Value → AH → Prop), WP 72 100 [.ref x0, .ref x1, .int x2, .int x3, .int x4, .int x5] ([.int y0, .int y1]) h Q ↔ WPM 1 [.int y1, .int y0] h (fun r h' => WP 72 103 [.ref x0, .ref x1, .int x2, .int x3, .int x4, .int x5] (r.toList ++ []) h' Q)) ∧
  (∀ (x0 : Nat) (x1 : Nat) (x2 : Int32) (x3 : Int32) (x4 : Int32) (x5 : Int32) (y0 : Int32) (st : List Value) (h : AH) (Q : Option Value → AH → Prop), WP 72 103 [.ref x0, .ref x1, .int x2, .int x3, .int x4, .int x5] (.int y0 :: st) h Q ↔ WP 72 105 [.ref x0, .ref x1, .int x2, .int x3, .int y0, .int x5] (st) h Q) ∧
  (∀ (x0 : Nat) (x1 : Nat) (x2 : Int32) (x3 : Int32) (x4 : Int32) (x5 : Value) (st : List Value) (h : AH) (Q : Option Value → AH → Prop), WP 72 105 [.ref x0, .ref x1, .int x2, .int x3, .int x4, x5] (st) h Q ↔ WP 72 106 [.ref x0, .ref x1, .int x2, .int x3, .int x4, x5] (.ref x0 :: st) h Q) ∧
  (∀ (x0 : Nat) (x1 : Nat) (x2 : Int32) (x3 : Int32) (x4 : Int32) (x5 : Value) (y0 : Nat) (st : List Value) (h : AH) (Q : Option Value → AH → Prop) (ht : hT h y0 = 8), WP 72 106 [.ref x0, .ref x1, .int x2, .int x3, .int x4, x5] (.ref y0 :: st) h Q ↔ WP 72 109 [.ref x0, .ref x1, .int x2, .int x3, .int x4, x5] (.ref (hR h y0 0) :: st) h Q) ∧
  (∀ (x0 : Nat) (x1 : Nat) (x2 : Int32) (x3 : Int32) (x4 : Int32) (x5 : Value) (y0 : Nat) (st : List Value) (h : AH) (Q : Option Value → AH → Prop) (ht : hT h y0 = 11), WP 72 109 [.ref x0, .ref x1, .int x2, .int x3, .int x4, x5] (.ref y0 :: st) h Q ↔ WP 72 112 [.ref x0, .ref x1, .int x2, .int x3, .int x4, x5] (.int (hI h y0 4) :: st) h Q) ∧
  (∀ (x0 : Nat) (x1 : Nat) (x2 : Int32) (x3 : Int32) (x4 : Int32) (x5 : Value) (st : List Value) (h : AH) (Q : Option Value → AH → Prop), WP 72 112 [.ref x0, .ref x1, .int x2, .int x3, .int x4, x5] (st) h Q ↔ WP 72 114 [.ref x0, .ref x1, .int x2, .int x3, .int x4, x5] (.int (9) :: st) h Q) ∧
  (∀ (x0 : Nat) (x1 : Nat) (x2 : Int32) (x3 : Int32) (x4 : Int32) (x5 : Value) (y0 : Int32) (y1 : Int32) (st : List Value) (h : AH) (Q : Option Value → AH → Prop), WP 72 114 [.ref x0, .ref x1, .int x2, .int x3, .int x4, x5] (.int y0 :: .int y1 :: st) h Q ↔ ((y1 = y0 → WP 72 123 [.ref x0, .ref x1, .int x2, .int x3, .int x4, x5] (st) h Q) ∧ (¬ y1 = y0 → WP 72 117 [.ref x0, .ref x1, .int x2, .int x3, .int x4, x5] (st) h Q))) ∧
  (∀ (x0 : Nat) (x1 : Nat) (x2 : Int32) (x3 : Int32) (x4 : Int32) (x5 : Value) (st : List Value) (h : AH) (Q : Option Value → AH → Prop), WP 72 117 [.ref x0, .ref x1, .int x2, .int x3, .int x4, x5] (st) h Q ↔ WP 72 118 [.ref x0, .ref x1, .int x2, .int x3, .int x4, x5] (.ref x0 :: st) h Q) ∧
  (∀ (x0 : Nat) (x1 : Nat) (x2 : Int32) (x3 : Int32) (x4 : Int32) (x5 : Value) (st : List Value) (h : AH) (Q : Option Value → AH → Prop), WP 72 118 [.ref x0, .ref x1, .int x2, .int x3, .int x4, x5] (st) h Q ↔ WP 72 119 [.ref x0, .ref x1, .int x2, .int x3, .int x4, x5] (.int (1) :: st) h Q) ∧
  (∀ (x0 : Nat) (x1 : Nat) (x2 : Int32) (x3 : Int32) (x4 : Int32) (x5 : Value) (y1 : Nat) (y0 : Int32) (h : AH) (Q : Option Value → AH → Prop) (ht : hT h y1 = 8), WP 72 119 [.ref x0, .ref x1, .int x2, .int x3, .int x4, x5] ([.int y0, .ref y1]) h Q ↔ WPM 63 [.ref y1, .int y0] h (fun r h' => WP 72 122 [.ref x0, .ref x1, .int x2, .int x3, .int x4, x5] (r.toList ++ []) h' Q)) ∧
  (∀ (x0 : Nat) (x1 : Nat) (x2 : Int32) (x3 : Int32) (x4 : Int32) (x5 : Value) (y0 : Int32) (h : AH) (Q : Option Value → AH → Prop) (hz : y0 = 0 ∨ y0 = 1), WP 72 122 [.ref x0, .ref x1, .int x2, .int x3, .int x4, x5] ([.int y0]) h Q ↔ Q (some (.int y0)) h) ∧
  (∀ (x0 : Nat) (x1 : Nat) (x2 : Int32) (x3 : Int32) (x4 : Int32) (x5 : Value) (st : List Value) (h : AH) (Q : Option Value → AH → Prop), WP 72 123 [.ref x0, .ref x1, .int x2, .int x3, .int x4, x5] (st) h Q ↔ WP 72 124 [.ref x0, .ref x1, .int x2, .int x3, .int x4, x5] (.ref x0 :: st) h Q) ∧
  (∀ (x0 : Nat) (x1 : Nat) (x2 : Int32) (x3 : Int32) (x4 : Int32) (x5 : Value) (y0 : Nat) (st : List Value) (h : AH) (Q : Option Value → AH → Prop) (ht : hT h y0 = 8), WP 72 124 [.ref x0, .ref x1, .int x2, .int x3, .int x4, x5] (.ref y0 :: st) h Q ↔ WP 72 127 [.ref x0, .ref x1, .int x2, .int x3, .int x4, x5] (.ref (hR h y0 1) :: st) h Q) ∧
  (∀ (x0 : Nat) (x1 : Nat) (x2 : Int32) (x3 : Int32) (x4 : Int32) (x5 : Value) (st : List Value) (h : AH) (Q : Option Value → AH → Prop), WP 72 127 [.ref x0, .ref x1, .int x2, .int x3, .int x4, x5] (st) h Q ↔ WP 72 128 [.ref x0, .ref x1, .int x2, .int x3, .int x4, x5] (.ref x0 :: st) h Q) ∧
  (∀ (x0 : Nat) (x1 : Nat) (x2 : Int32) (x3 : Int32) (x4 : Int32) (x5 : Value) (y0 : Nat) (st : List Value) (h : AH) (Q : Option Value → AH → Prop) (ht : hT h y0 = 8), WP 72 128 [.ref x0, .ref x1, .int x2, .int x3, .int x4, x5] (.ref y0 :: st) h Q ↔ WP 72 131 [.ref x0, .ref x1, .int x2, .int x3, .int x4, x5] (.int (hI h y0 2) :: st) h Q) ∧
  (∀ (x0 : Nat) (x1 : Nat) (x2 : Int32) (x3 : Int32) (x4 : Int32) (x5 : Value) (st : List Value) (h : AH) (Q : Option Value → AH → Prop), WP 72 131 [.ref x0, .ref x1, .int x2, .int x3, .int x4, x5] (st) h Q ↔ WP 72 133 [.ref x0, .ref x1, .int x2, .int x3, .int x4, x5] (.int x4 :: st) h Q) ∧
  (∀ (x0 : Nat) (x1 : Nat) (x2 : Int32) (x3 : Int32) (x4 : Int32) (x5 : Value) (y0 : Int32) (y1 : Int32) (y2 : Nat) (st : List Value) (h : AH) (Q : Option Value → AH → Prop) (ht : hT h y2 = 100) (hi : inb y1 (hL h y2) = true), WP 72 133 [.ref x0, .ref x1, .int x2, .int x3, .int x4, x5] (.int y0 :: .int y1 :: .ref y2 :: st) h Q ↔ WP 72 134 [.ref x0, .ref x1, .int x2, .int x3, .int x4, x5] (st) (sI h y2 y1.toNatClampNeg y0) Q) ∧
  (∀ (x0 : Nat) (x1 : Nat) (x2 : Int32) (x3 : Int32) (x4 : Int32) (x5 : Value) (st : List Value) (h : AH) (Q : Option Value → AH → Prop), WP 72 134 [.ref x0, .ref x1, .int x2, .int x3, .int x4, x5] (st) h Q ↔ WP 72 135 [.ref x0, .ref x1, .int x2, .int x3, .int x4, x5] (.ref x0 :: st) h Q) ∧
  (∀ (x0 : Nat) (x1 : Nat) (x2 : Int32) (x3 : Int32) (x4 : Int32) (x5 : Value) (y0 : Nat) (st : List Value) (h : AH) (Q : Option Value → AH → Prop), WP 72 135 [.ref x0, .ref x1, .int x2, .int x3, .int x4, x5] (.ref y0 :: st) h Q ↔ WP 72 136 [.ref x0, .ref x1, .int x2, .int x3, .int x4, x5] (.ref y0 :: .ref y0 :: st) h Q) ∧
  (∀ (x0 : Nat) (x1 : Nat) (x2 : Int32) (x3 : Int32) (x4 : Int32) (x5 : Value) (y0 : Nat) (st : List Value) (h : AH) (Q : Option Value → AH → Prop) (ht : hT h y0 = 8), WP 72 136 [.ref x0, .ref x1, .int x2, .int x3, .int x4, x5] (.ref y0 :: st) h Q ↔ WP 72 139 [.ref x0, .ref x1, .int x2, .int x3, .int x4, x5] (.int (hI h y0 2) :: st) h Q) ∧
  (∀ (x0 : Nat) (x1 : Nat) (x2 : Int32) (x3 : Int32) (x4 : Int32) (x5 : Value) (st : List Value) (h : AH) (Q : Option Value → AH → Prop), WP 72 139 [.ref x0, .ref x1, .int x2, .int x3, .int x4, x5] (st) h Q ↔ WP 72 140 [.ref x0, .ref x1, .int x2, .int x3, .int x4, x5] (.int (1) :: st) h Q) ∧
  (∀ (x0 : Nat) (x1 : Nat) (x2 : Int32) (x3 : Int32) (x4 : Int32) (x5 : Value) (y0 : Int32) (y1 : Int32) (st : List Value) (h : AH) (Q : Option Value → AH → Prop), WP 72 140 [.ref x0, .ref x1, .int x2, .int x3, .int x4, x5] (.int y0 :: .int y1 :: st) h Q ↔ WP 72 141 [.ref x0, .ref x1, .int x2, .int x3, .int x4, x5] (.int (y1 + y0) :: st) h Q) ∧
  (∀ (x0 : Nat) (x1 : Nat) (x2 : Int32) (x3 : Int32) (x4 : Int32) (x5 : Value) (y0 : Int32) (y1 : Nat) (st : List Value) (h : AH) (Q : Option Value → AH → Prop) (ht : hT h y1 = 8), WP 72 141 [.ref x0, .ref x1, .int x2, .int x3, .int x4, x5] (.int y0 :: .ref y1 :: st) h Q ↔ WP 72 144 [.ref x0, .ref x1, .int x2, .int x3, .int x4, x5] (st) (sI h y1 2 y0) Q) :=
  ⟨fun _ _ _ _ _ _ _ _ => WP_s (show ct 72 67 = some (.iconst 1, 0, []) by decide +kernel) rfl,
  fun _ _ _ _ _ _ _ _ _ _ => WI_ne (show ct 72 68 = some (.if_icmp .ne 37, 0, [105]) by decide +kernel) (by decide),
  fun _ _ _ _ _ _ _ _ => WP_s (show ct 72 71 = some (.aload_n 0, 0, []) by decide +kernel) rfl,
  fun _ _ _ _ _ _ _ _ _ ht => WH_gR (show ct 72 72 = some (.getfield 12, 1, [7, 0, 2, 305]) by decide +kernel) ht,
  fun _ _ _ _ _ _ _ _ _ ht => WH_gI (show ct 72 75 = some (.getfield 49, 1, [10, 4, 0, 285]) by decide +kernel) (by decide) ht,
  fun _ _ _ _ _ _ _ _ => WP_s (show ct 72 78 = some (.bipush 6, 0, []) by decide +kernel) rfl,
  fun _ _ _ _ _ _ _ _ _ _ => WI_ne (show ct 72 80 = some (.if_icmp .ne 25, 0, [105]) by decide +kernel) (by decide),
  fun _ _ _ _ _ _ _ _ => WP_s (show ct 72 83 = some (.aload_n 0, 0, []) by decide +kernel) rfl,
  fun _ _ _ _ _ _ _ _ => WP_s (show ct 72 84 = some (.aload_n 1, 0, []) by decide +kernel) rfl,
  fun _ _ _ _ _ _ _ _ _ ht => WC_1 (show ct 72 85 = some (.invokevirtual 102, 3, [73, 2, 1, 8, 0, 1118, 1120, 52]) by decide +kernel) (Nat.le_of_ble_eq_true rfl) (Nat.le_of_ble_eq_true rfl) rfl rfl ht,
  fun _ _ _ _ _ _ _ _ _ => WP_s (show ct 72 88 = some (.istore 5, 0, []) by decide +kernel) rfl,
  fun _ _ _ _ _ _ _ _ _ => WP_s (show ct 72 90 = some (.iload 5, 0, []) by decide +kernel) rfl,
  fun _ _ _ _ _ _ _ _ _ _ => WZ_ge (show ct 72 92 = some (.ifCond .ge 5, 0, [97]) by decide +kernel) (by decide),
  fun _ _ _ _ _ _ _ _ _ => WP_s (show ct 72 95 = some (.iconst 0, 0, []) by decide +kernel) rfl,
  fun _ _ _ _ _ _ _ _ _ hz => WR_z (show ct 72 96 = some (.ireturn, 2, [1]) by decide +kernel) hz,
  fun _ _ _ _ _ _ _ _ _ => WP_s (show ct 72 97 = some (.iload_n 3, 0, []) by decide +kernel) rfl,
  fun _ _ _ _ _ _ _ _ _ => WP_s (show ct 72 98 = some (.iload 5, 0, []) by decide +kernel) rfl,
  fun _ _ _ _ _ _ _ _ _ _ => WC_0 (show ct 72 100 = some (.invokestatic 107, 3, [1, 2, 0, 0, 0, 1122, 797, 0]) by decide +kernel) (Nat.le_of_ble_eq_true rfl) (Nat.le_of_ble_eq_true rfl) rfl rfl,
  fun _ _ _ _ _ _ _ _ _ _ => WP_s (show ct 72 103 = some (.istore 4, 0, []) by decide +kernel) rfl,
  fun _ _ _ _ _ _ _ _ _ => WP_s (show ct 72 105 = some (.aload_n 0, 0, []) by decide +kernel) rfl,
  fun _ _ _ _ _ _ _ _ _ _ ht => WH_gR (show ct 72 106 = some (.getfield 12, 1, [7, 0, 2, 305]) by decide +kernel) ht,
  fun _ _ _ _ _ _ _ _ _ _ ht => WH_gI (show ct 72 109 = some (.getfield 49, 1, [10, 4, 0, 285]) by decide +kernel) (by decide) ht,
  fun _ _ _ _ _ _ _ _ _ => WP_s (show ct 72 112 = some (.bipush 9, 0, []) by decide +kernel) rfl,
  fun _ _ _ _ _ _ _ _ _ _ _ => WI_eq (show ct 72 114 = some (.if_icmp .eq 9, 0, [123]) by decide +kernel) (by decide),
  fun _ _ _ _ _ _ _ _ _ => WP_s (show ct 72 117 = some (.aload_n 0, 0, []) by decide +kernel) rfl,
  fun _ _ _ _ _ _ _ _ _ => WP_s (show ct 72 118 = some (.iconst 1, 0, []) by decide +kernel) rfl,
  fun _ _ _ _ _ _ _ _ _ _ ht => WC_1 (show ct 72 119 = some (.invokevirtual 30, 3, [63, 2, 1, 8, 0, 680, 682, 7]) by decide +kernel) (Nat.le_of_ble_eq_true rfl) (Nat.le_of_ble_eq_true rfl) rfl rfl ht,
  fun _ _ _ _ _ _ _ _ _ hz => WR_z (show ct 72 122 = some (.ireturn, 2, [1]) by decide +kernel) hz,
  fun _ _ _ _ _ _ _ _ _ => WP_s (show ct 72 123 = some (.aload_n 0, 0, []) by decide +kernel) rfl,
  fun _ _ _ _ _ _ _ _ _ _ ht => WH_gR (show ct 72 124 = some (.getfield 18, 1, [7, 1, 2, 306]) by decide +kernel) ht,
  fun _ _ _ _ _ _ _ _ _ => WP_s (show ct 72 127 = some (.aload_n 0, 0, []) by decide +kernel) rfl,
  fun _ _ _ _ _ _ _ _ _ _ ht => WH_gI (show ct 72 128 = some (.getfield 96, 1, [7, 2, 0, 308]) by decide +kernel) (by decide) ht,
  fun _ _ _ _ _ _ _ _ _ => WP_s (show ct 72 131 = some (.iload 4, 0, []) by decide +kernel) rfl,
  fun _ _ _ _ _ _ _ _ _ _ _ _ ht hi => WH_iast (show ct 72 133 = some (.iastore, 1, []) by decide +kernel) ht hi,
  fun _ _ _ _ _ _ _ _ _ => WP_s (show ct 72 134 = some (.aload_n 0, 0, []) by decide +kernel) rfl,
  fun _ _ _ _ _ _ _ _ _ _ => WP_s (show ct 72 135 = some (.dup, 0, []) by decide +kernel) rfl,
  fun _ _ _ _ _ _ _ _ _ _ ht => WH_gI (show ct 72 136 = some (.getfield 96, 1, [7, 2, 0, 308]) by decide +kernel) (by decide) ht,
  fun _ _ _ _ _ _ _ _ _ => WP_s (show ct 72 139 = some (.iconst 1, 0, []) by decide +kernel) rfl,
  fun _ _ _ _ _ _ _ _ _ _ _ => WP_s (show ct 72 140 = some (.iadd, 0, []) by decide +kernel) rfl,
  fun _ _ _ _ _ _ _ _ _ _ _ ht => WH_pI (show ct 72 141 = some (.putfield 96, 1, [7, 2, 0, 0, 308]) by decide +kernel) ht⟩
set_option maxRecDepth 10000 in
theorem w72_c : (∀ (x0 : Nat) (x1 : Nat) (x2 : Int32) (x3 : Int32) (x4 : Int32) (x5 : Value) (st : List Value) (h : AH) (Q : Option Value → AH → Prop), WP 72 144 [.ref x0, .ref x1, .int x2, .int x3, .int x4, x5] (st) h Q ↔ WP 72 145 [.ref x0, .ref x1, .int x2, .int x3, .int x4, x5] (.int (1) :: st) h Q) ∧
  (∀ (x0 : Nat) (x1 : Nat) (x2 : Int32) (x3 : Int32) (x4 : Int32) (x5 : Value) (y0 : Int32) (h : AH) (Q : Option Value → AH → Prop) (hz : y0 = 0 ∨ y0 = 1), WP 72 145 [.ref x0, .ref x1, .int x2, .int x3, .int x4, x5] ([.int y0]) h Q ↔ Q (some (.int y0)) h) :=
  ⟨fun _ _ _ _ _ _ _ _ _ => WP_s (show ct 72 144 = some (.iconst 1, 0, []) by decide +kernel) rfl,
  fun _ _ _ _ _ _ _ _ _ hz => WR_z (show ct 72 145 = some (.ireturn, 2, [1]) by decide +kernel) hz⟩
/-- all of 72 -/
def w72_n : Nat := 3
/-! 73: FewBowls$Reader.readThing(LFewBowls$Net;)I; loop heads [] -/
set_option maxRecDepth 10000 in
theorem w73 : (∀ (x0 : Nat) (x1 : Nat) (st : List Value) (h : AH) (Q : Option Value → AH → Prop), WP 73 0 [.ref x0, .ref x1, .retAddr 0] (st) h Q ↔ WP 73 1 [.ref x0, .ref x1, .retAddr 0] (.ref x0 :: st) h Q) ∧
  (∀ (x0 : Nat) (x1 : Nat) (y0 : Nat) (st : List Value) (h : AH) (Q : Option Value → AH → Prop) (ht : hT h y0 = 8), WP 73 1 [.ref x0, .ref x1, .retAddr 0] (.ref y0 :: st) h Q ↔ WP 73 4 [.ref x0, .ref x1, .retAddr 0] (.ref (hR h y0 0) :: st) h Q) ∧
  (∀ (x0 : Nat) (x1 : Nat) (y0 : Nat) (h : AH) (Q : Option Value → AH → Prop) (ht : hT h y0 = 11), WP 73 4 [.ref x0, .ref x1, .retAddr 0] ([.ref y0]) h Q ↔ WPM 95 [.ref y0] h (fun r h' => WP 73 7 [.ref x0, .ref x1, .retAddr 0] (r.toList ++ []) h' Q)) ∧
  (∀ (x0 : Nat) (x1 : Nat) (st : List Value) (h : AH) (Q : Option Value → AH → Prop), WP 73 7 [.ref x0, .ref x1, .retAddr 0] (st) h Q ↔ WP 73 8 [.ref x0, .ref x1, .retAddr 0] (.ref x0 :: st) h Q) ∧
  (∀ (x0 : Nat) (x1 : Nat) (y0 : Nat) (st : List Value) (h : AH) (Q : Option Value → AH → Prop) (ht : hT h y0 = 8), WP 73 8 [.ref x0, .ref x1, .retAddr 0] (.ref y0 :: st) h Q ↔ WP 73 11 [.ref x0, .ref x1, .retAddr 0] (.ref (hR h y0 0) :: st) h Q) ∧
  (∀ (x0 : Nat) (x1 : Nat) (y0 : Nat) (st : List Value) (h : AH) (Q : Option Value → AH → Prop) (ht : hT h y0 = 11), WP 73 11 [.ref x0, .ref x1, .retAddr 0] (.ref y0 :: st) h Q ↔ WP 73 14 [.ref x0, .ref x1, .retAddr 0] (.int (hI h y0 4) :: st) h Q) ∧
  (∀ (x0 : Nat) (x1 : Nat) (st : List Value) (h : AH) (Q : Option Value → AH → Prop), WP 73 14 [.ref x0, .ref x1, .retAddr 0] (st) h Q ↔ WP 73 16 [.ref x0, .ref x1, .retAddr 0] (.int (7) :: st) h Q) ∧
  (∀ (x0 : Nat) (x1 : Nat) (y0 : Int32) (y1 : Int32) (st : List Value) (h : AH) (Q : Option Value → AH → Prop), WP 73 16 [.ref x0, .ref x1, .retAddr 0] (.int y0 :: .int y1 :: st) h Q ↔ ((y1 = y0 → WP 73 25 [.ref x0, .ref x1, .retAddr 0] (st) h Q) ∧ (¬ y1 = y0 → WP 73 19 [.ref x0, .ref x1, .retAddr 0] (st) h Q))) ∧
  (∀ (x0 : Nat) (x1 : Nat) (st : List Value) (h : AH) (Q : Option Value → AH → Prop), WP 73 19 [.ref x0, .ref x1, .retAddr 0] (st) h Q ↔ WP 73 20 [.ref x0, .ref x1, .retAddr 0] (.ref x0 :: st) h Q) ∧
  (∀ (x0 : Nat) (x1 : Nat) (st : List Value) (h : AH) (Q : Option Value → AH → Prop), WP 73 20 [.ref x0, .ref x1, .retAddr 0] (st) h Q ↔ WP 73 21 [.ref x0, .ref x1, .retAddr 0] (.int (1) :: st) h Q) ∧
  (∀ (x0 : Nat) (x1 : Nat) (y1 : Nat) (y0 : Int32) (h : AH) (Q : Option Value → AH → Prop) (ht : hT h y1 = 8), WP 73 21 [.ref x0, .ref x1, .retAddr 0] ([.int y0, .ref y1]) h Q ↔ WPM 64 [.ref y1, .int y0] h (fun r h' => WP 73 24 [.ref x0, .ref x1, .retAddr 0] (r.toList ++ []) h' Q)) ∧
  (∀ (x0 : Nat) (x1 : Nat) (y0 : Int32) (h : AH) (Q : Option Value → AH → Prop), WP 73 24 [.ref x0, .ref x1, .retAddr 0] ([.int y0]) h Q ↔ Q (some (.int y0)) h) ∧
  (∀ (x0 : Nat) (x1 : Nat) (st : List Value) (h : AH) (Q : Option Value → AH → Prop), WP 73 25 [.ref x0, .ref x1, .retAddr 0] (st) h Q ↔ WP 73 26 [.ref x0, .ref x1, .retAddr 0] (.ref x1 :: st) h Q) ∧
  (∀ (x0 : Nat) (x1 : Nat) (st : List Value) (h : AH) (Q : Option Value → AH → Prop), WP 73 26 [.ref x0, .ref x1, .retAddr 0] (st) h Q ↔ WP 73 27 [.ref x0, .ref x1, .retAddr 0] (.ref x0 :: st) h Q) ∧
  (∀ (x0 : Nat) (x1 : Nat) (y0 : Nat) (st : List Value) (h : AH) (Q : Option Value → AH → Prop) (ht : hT h y0 = 8), WP 73 27 [.ref x0, .ref x1, .retAddr 0] (.ref y0 :: st) h Q ↔ WP 73 30 [.ref x0, .ref x1, .retAddr 0] (.ref (hR h y0 0) :: st) h Q) ∧
  (∀ (x0 : Nat) (x1 : Nat) (y0 : Nat) (st : List Value) (h : AH) (Q : Option Value → AH → Prop) (ht : hT h y0 = 11), WP 73 30 [.ref x0, .ref x1, .retAddr 0] (.ref y0 :: st) h Q ↔ WP 73 33 [.ref x0, .ref x1, .retAddr 0] (.int (hI h y0 6) :: st) h Q) ∧
  (∀ (x0 : Nat) (x1 : Nat) (y1 : Nat) (y0 : Int32) (h : AH) (Q : Option Value → AH → Prop) (ht : hT h y1 = 4), WP 73 33 [.ref x0, .ref x1, .retAddr 0] ([.int y0, .ref y1]) h Q ↔ WPM 26 [.ref y1, .int y0] h (fun r h' => WP 73 36 [.ref x0, .ref x1, .retAddr 0] (r.toList ++ []) h' Q)) ∧
  (∀ (x0 : Nat) (x1 : Nat) (y0 : Int32) (st : List Value) (h : AH) (Q : Option Value → AH → Prop), WP 73 36 [.ref x0, .ref x1, .retAddr 0] (.int y0 :: st) h Q ↔ WP 73 37 [.ref x0, .ref x1, .int y0] (st) h Q) ∧
  (∀ (x0 : Nat) (x1 : Nat) (x2 : Int32) (st : List Value) (h : AH) (Q : Option Value → AH → Prop), WP 73 37 [.ref x0, .ref x1, .int x2] (st) h Q ↔ WP 73 38 [.ref x0, .ref x1, .int x2] (.int x2 :: st) h Q) ∧
  (∀ (x0 : Nat) (x1 : Nat) (x2 : Int32) (y0 : Int32) (st : List Value) (h : AH) (Q : Option Value → AH → Prop), WP 73 38 [.ref x0, .ref x1, .int x2] (.int y0 :: st) h Q ↔ ((0 ≤ y0 → WP 73 47 [.ref x0, .ref x1, .int x2] (st) h Q) ∧ (¬ 0 ≤ y0 → WP 73 41 [.ref x0, .ref x1, .int x2] (st) h Q))) ∧
  (∀ (x0 : Nat) (x1 : Nat) (x2 : Int32) (st : List Value) (h : AH) (Q : Option Value → AH → Prop), WP 73 41 [.ref x0, .ref x1, .int x2] (st) h Q ↔ WP 73 42 [.ref x0, .ref x1, .int x2] (.ref x0 :: st) h Q) ∧
  (∀ (x0 : Nat) (x1 : Nat) (x2 : Int32) (st : List Value) (h : AH) (Q : Option Value → AH → Prop), WP 73 42 [.ref x0, .ref x1, .int x2] (st) h Q ↔ WP 73 43 [.ref x0, .ref x1, .int x2] (.int (3) :: st) h Q) ∧
  (∀ (x0 : Nat) (x1 : Nat) (x2 : Int32) (y1 : Nat) (y0 : Int32) (h : AH) (Q : Option Value → AH → Prop) (ht : hT h y1 = 8), WP 73 43 [.ref x0, .ref x1, .int x2] ([.int y0, .ref y1]) h Q ↔ WPM 64 [.ref y1, .int y0] h (fun r h' => WP 73 46 [.ref x0, .ref x1, .int x2] (r.toList ++ []) h' Q)) ∧
  (∀ (x0 : Nat) (x1 : Nat) (x2 : Int32) (y0 : Int32) (h : AH) (Q : Option Value → AH → Prop), WP 73 46 [.ref x0, .ref x1, .int x2] ([.int y0]) h Q ↔ Q (some (.int y0)) h) ∧
  (∀ (x0 : Nat) (x1 : Nat) (x2 : Int32) (st : List Value) (h : AH) (Q : Option Value → AH → Prop), WP 73 47 [.ref x0, .ref x1, .int x2] (st) h Q ↔ WP 73 48 [.ref x0, .ref x1, .int x2] (.ref x0 :: st) h Q) ∧
  (∀ (x0 : Nat) (x1 : Nat) (x2 : Int32) (y0 : Nat) (st : List Value) (h : AH) (Q : Option Value → AH → Prop) (ht : hT h y0 = 8), WP 73 48 [.ref x0, .ref x1, .int x2] (.ref y0 :: st) h Q ↔ WP 73 51 [.ref x0, .ref x1, .int x2] (.ref (hR h y0 0) :: st) h Q) ∧
  (∀ (x0 : Nat) (x1 : Nat) (x2 : Int32) (y0 : Nat) (h : AH) (Q : Option Value → AH → Prop) (ht : hT h y0 = 11), WP 73 51 [.ref x0, .ref x1, .int x2] ([.ref y0]) h Q ↔ WPM 95 [.ref y0] h (fun r h' => WP 73 54 [.ref x0, .ref x1, .int x2] (r.toList ++ []) h' Q)) ∧
  (∀ (x0 : Nat) (x1 : Nat) (x2 : Int32) (st : List Value) (h : AH) (Q : Option Value → AH → Prop), WP 73 54 [.ref x0, .ref x1, .int x2] (st) h Q ↔ WP 73 55 [.ref x0, .ref x1, .int x2] (.int x2 :: st) h Q) ∧
  (∀ (x0 : Nat) (x1 : Nat) (x2 : Int32) (y0 : Int32) (h : AH) (Q : Option Value → AH → Prop), WP 73 55 [.ref x0, .ref x1, .int x2] ([.int y0]) h Q ↔ Q (some (.int y0)) h) :=
  ⟨fun _ _ _ _ _ => WP_s (show ct 73 0 = some (.aload_n 0, 0, []) by decide +kernel) rfl,
  fun _ _ _ _ _ _ ht => WH_gR (show ct 73 1 = some (.getfield 12, 1, [7, 0, 2, 305]) by decide +kernel) ht,
  fun _ _ _ _ _ ht => WC_1 (show ct 73 4 = some (.invokevirtual 46, 3, [95, 1, 1, 11, 0, 647, 648, 649]) by decide +kernel) (Nat.le_of_ble_eq_true rfl) (Nat.le_of_ble_eq_true rfl) rfl rfl ht,
  fun _ _ _ _ _ => WP_s (show ct 73 7 = some (.aload_n 0, 0, []) by decide +kernel) rfl,
  fun _ _ _ _ _ _ ht => WH_gR (show ct 73 8 = some (.getfield 12, 1, [7, 0, 2, 305]) by decide +kernel) ht,
  fun _ _ _ _ _ _ ht => WH_gI (show ct 73 11 = some (.getfield 49, 1, [10, 4, 0, 285]) by decide +kernel) (by decide) ht,
  fun _ _ _ _ _ => WP_s (show ct 73 14 = some (.bipush 7, 0, []) by decide +kernel) rfl,
  fun _ _ _ _ _ _ _ => WI_eq (show ct 73 16 = some (.if_icmp .eq 9, 0, [25]) by decide +kernel) (by decide),
  fun _ _ _ _ _ => WP_s (show ct 73 19 = some (.aload_n 0, 0, []) by decide +kernel) rfl,
  fun _ _ _ _ _ => WP_s (show ct 73 20 = some (.iconst 1, 0, []) by decide +kernel) rfl,
  fun _ _ _ _ _ _ ht => WC_1 (show ct 73 21 = some (.invokevirtual 89, 3, [64, 2, 1, 8, 0, 733, 735, 15]) by decide +kernel) (Nat.le_of_ble_eq_true rfl) (Nat.le_of_ble_eq_true rfl) rfl rfl ht,
  fun _ _ _ _ _ => WR_i (show ct 73 24 = some (.ireturn, 2, [0]) by decide +kernel),
  fun _ _ _ _ _ => WP_s (show ct 73 25 = some (.aload_n 1, 0, []) by decide +kernel) rfl,
  fun _ _ _ _ _ => WP_s (show ct 73 26 = some (.aload_n 0, 0, []) by decide +kernel) rfl,
  fun _ _ _ _ _ _ ht => WH_gR (show ct 73 27 = some (.getfield 12, 1, [7, 0, 2, 305]) by decide +kernel) ht,
  fun _ _ _ _ _ _ ht => WH_gI (show ct 73 30 = some (.getfield 70, 1, [10, 6, 0, 289]) by decide +kernel) (by decide) ht,
  fun _ _ _ _ _ _ ht => WC_1 (show ct 73 33 = some (.invokevirtual 73, 3, [26, 2, 1, 4, 0, 724, 725, 726]) by decide +kernel) (Nat.le_of_ble_eq_true rfl) (Nat.le_of_ble_eq_true rfl) rfl rfl ht,
  fun _ _ _ _ _ _ => WP_s (show ct 73 36 = some (.istore_n 2, 0, []) by decide +kernel) rfl,
  fun _ _ _ _ _ _ => WP_s (show ct 73 37 = some (.iload_n 2, 0, []) by decide +kernel) rfl,
  fun _ _ _ _ _ _ _ => WZ_ge (show ct 73 38 = some (.ifCond .ge 9, 0, [47]) by decide +kernel) (by decide),
  fun _ _ _ _ _ _ => WP_s (show ct 73 41 = some (.aload_n 0, 0, []) by decide +kernel) rfl,
  fun _ _ _ _ _ _ => WP_s (show ct 73 42 = some (.iconst 3, 0, []) by decide +kernel) rfl,
  fun _ _ _ _ _ _ _ ht => WC_1 (show ct 73 43 = some (.invokevirtual 89, 3, [64, 2, 1, 8, 0, 733, 735, 15]) by decide +kernel) (Nat.le_of_ble_eq_true rfl) (Nat.le_of_ble_eq_true rfl) rfl rfl ht,
  fun _ _ _ _ _ _ => WR_i (show ct 73 46 = some (.ireturn, 2, [0]) by decide +kernel),
  fun _ _ _ _ _ _ => WP_s (show ct 73 47 = some (.aload_n 0, 0, []) by decide +kernel) rfl,
  fun _ _ _ _ _ _ _ ht => WH_gR (show ct 73 48 = some (.getfield 12, 1, [7, 0, 2, 305]) by decide +kernel) ht,
  fun _ _ _ _ _ _ ht => WC_1 (show ct 73 51 = some (.invokevirtual 46, 3, [95, 1, 1, 11, 0, 647, 648, 649]) by decide +kernel) (Nat.le_of_ble_eq_true rfl) (Nat.le_of_ble_eq_true rfl) rfl rfl ht,
  fun _ _ _ _ _ _ => WP_s (show ct 73 54 = some (.iload_n 2, 0, []) by decide +kernel) rfl,
  fun _ _ _ _ _ _ => WR_i (show ct 73 55 = some (.ireturn, 2, [0]) by decide +kernel)⟩

/-! 50: FewBowls$Reach.<init>(LFewBowls$Desk;LFewBowls$Acts;)V; loop heads [] -/
set_option maxRecDepth 10000 in
theorem w50 : (∀ (x0 : Nat) (x1 : Nat) (x2 : Nat) (st : List Value) (h : AH) (Q : Option Value → AH → Prop), WP 50 0 [.ref x0, .ref x1, .ref x2] (st) h Q ↔ WP 50 1 [.ref x0, .ref x1, .ref x2] (.ref x0 :: st) h Q) ∧
  (∀ (x0 : Nat) (x1 : Nat) (x2 : Nat) (y0 : Nat) (h : AH) (Q : Option Value → AH → Prop) (h0 : y0 ≠ 0), WP 50 1 [.ref x0, .ref x1, .ref x2] ([.ref y0]) h Q ↔ WP 50 4 [.ref x0, .ref x1, .ref x2] ([]) h Q) ∧
  (∀ (x0 : Nat) (x1 : Nat) (x2 : Nat) (st : List Value) (h : AH) (Q : Option Value → AH → Prop), WP 50 4 [.ref x0, .ref x1, .ref x2] (st) h Q ↔ WP 50 5 [.ref x0, .ref x1, .ref x2] (.ref x0 :: st) h Q) ∧
  (∀ (x0 : Nat) (x1 : Nat) (x2 : Nat) (st : List Value) (h : AH) (Q : Option Value → AH → Prop), WP 50 5 [.ref x0, .ref x1, .ref x2] (st) h Q ↔ WP 50 6 [.ref x0, .ref x1, .ref x2] (.int (0) :: st) h Q) ∧
  (∀ (x0 : Nat) (x1 : Nat) (x2 : Nat) (y0 : Int32) (st : List Value) (h : AH) (Q : Option Value → AH → Prop) (h0 : 0 ≤ y0) (h1 : y0.toNatClampNeg ≤ 1048576), WP 50 6 [.ref x0, .ref x1, .ref x2] (.int y0 :: st) h Q ↔ WP 50 8 [.ref x0, .ref x1, .ref x2] (.ref (hN h) :: st) (nw h 101 y0.toNatClampNeg y0.toNatClampNeg) Q) ∧
  (∀ (x0 : Nat) (x1 : Nat) (x2 : Nat) (y0 : Nat) (y1 : Nat) (st : List Value) (h : AH) (Q : Option Value → AH → Prop) (ht : hT h y1 = 7), WP 50 8 [.ref x0, .ref x1, .ref x2] (.ref y0 :: .ref y1 :: st) h Q ↔ WP 50 11 [.ref x0, .ref x1, .ref x2] (st) (sR h y1 2 y0) Q) ∧
  (∀ (x0 : Nat) (x1 : Nat) (x2 : Nat) (st : List Value) (h : AH) (Q : Option Value → AH → Prop), WP 50 11 [.ref x0, .ref x1, .ref x2] (st) h Q ↔ WP 50 12 [.ref x0, .ref x1, .ref x2] (.ref x0 :: st) h Q) ∧
  (∀ (x0 : Nat) (x1 : Nat) (x2 : Nat) (st : List Value) (h : AH) (Q : Option Value → AH → Prop), WP 50 12 [.ref x0, .ref x1, .ref x2] (st) h Q ↔ WP 50 13 [.ref x0, .ref x1, .ref x2] (.int (0) :: st) h Q) ∧
  (∀ (x0 : Nat) (x1 : Nat) (x2 : Nat) (y0 : Int32) (st : List Value) (h : AH) (Q : Option Value → AH → Prop) (h0 : 0 ≤ y0) (h1 : y0.toNatClampNeg ≤ 1048576), WP 50 13 [.ref x0, .ref x1, .ref x2] (.int y0 :: st) h Q ↔ WP 50 15 [.ref x0, .ref x1, .ref x2] (.ref (hN h) :: st) (nw h 100 y0.toNatClampNeg y0.toNatClampNeg) Q) ∧
  (∀ (x0 : Nat) (x1 : Nat) (x2 : Nat) (y0 : Nat) (y1 : Nat) (st : List Value) (h : AH) (Q : Option Value → AH → Prop) (ht : hT h y1 = 7), WP 50 15 [.ref x0, .ref x1, .ref x2] (.ref y0 :: .ref y1 :: st) h Q ↔ WP 50 18 [.ref x0, .ref x1, .ref x2] (st) (sR h y1 3 y0) Q) ∧
  (∀ (x0 : Nat) (x1 : Nat) (x2 : Nat) (st : List Value) (h : AH) (Q : Option Value → AH → Prop), WP 50 18 [.ref x0, .ref x1, .ref x2] (st) h Q ↔ WP 50 19 [.ref x0, .ref x1, .ref x2] (.ref x0 :: st) h Q) ∧
  (∀ (x0 : Nat) (x1 : Nat) (x2 : Nat) (st : List Value) (h : AH) (Q : Option Value → AH → Prop), WP 50 19 [.ref x0, .ref x1, .ref x2] (st) h Q ↔ WP 50 20 [.ref x0, .ref x1, .ref x2] (.int (-1) :: st) h Q) ∧
  (∀ (x0 : Nat) (x1 : Nat) (x2 : Nat) (y0 : Int32) (y1 : Nat) (st : List Value) (h : AH) (Q : Option Value → AH → Prop) (ht : hT h y1 = 7), WP 50 20 [.ref x0, .ref x1, .ref x2] (.int y0 :: .ref y1 :: st) h Q ↔ WP 50 23 [.ref x0, .ref x1, .ref x2] (st) (sI h y1 6 y0) Q) ∧
  (∀ (x0 : Nat) (x1 : Nat) (x2 : Nat) (st : List Value) (h : AH) (Q : Option Value → AH → Prop), WP 50 23 [.ref x0, .ref x1, .ref x2] (st) h Q ↔ WP 50 24 [.ref x0, .ref x1, .ref x2] (.ref x0 :: st) h Q) ∧
  (∀ (x0 : Nat) (x1 : Nat) (x2 : Nat) (st : List Value) (h : AH) (Q : Option Value → AH → Prop), WP 50 24 [.ref x0, .ref x1, .ref x2] (st) h Q ↔ WP 50 25 [.ref x0, .ref x1, .ref x2] (.ref x1 :: st) h Q) ∧
  (∀ (x0 : Nat) (x1 : Nat) (x2 : Nat) (y0 : Nat) (y1 : Nat) (st : List Value) (h : AH) (Q : Option Value → AH → Prop) (ht : hT h y1 = 7), WP 50 25 [.ref x0, .ref x1, .ref x2] (.ref y0 :: .ref y1 :: st) h Q ↔ WP 50 28 [.ref x0, .ref x1, .ref x2] (st) (sR h y1 0 y0) Q) ∧
  (∀ (x0 : Nat) (x1 : Nat) (x2 : Nat) (st : List Value) (h : AH) (Q : Option Value → AH → Prop), WP 50 28 [.ref x0, .ref x1, .ref x2] (st) h Q ↔ WP 50 29 [.ref x0, .ref x1, .ref x2] (.ref x0 :: st) h Q) ∧
  (∀ (x0 : Nat) (x1 : Nat) (x2 : Nat) (st : List Value) (h : AH) (Q : Option Value → AH → Prop), WP 50 29 [.ref x0, .ref x1, .ref x2] (st) h Q ↔ WP 50 30 [.ref x0, .ref x1, .ref x2] (.ref x2 :: st) h Q) ∧
  (∀ (x0 : Nat) (x1 : Nat) (x2 : Nat) (y0 : Nat) (y1 : Nat) (st : List Value) (h : AH) (Q : Option Value → AH → Prop) (ht : hT h y1 = 7), WP 50 30 [.ref x0, .ref x1, .ref x2] (.ref y0 :: .ref y1 :: st) h Q ↔ WP 50 33 [.ref x0, .ref x1, .ref x2] (st) (sR h y1 1 y0) Q) ∧
  (∀ (x0 : Nat) (x1 : Nat) (x2 : Nat) (h : AH) (Q : Option Value → AH → Prop), WP 50 33 [.ref x0, .ref x1, .ref x2] ([]) h Q ↔ Q none h) :=
  ⟨fun _ _ _ _ _ _ => WP_s (show ct 50 0 = some (.aload_n 0, 0, []) by decide +kernel) rfl,
  fun _ _ _ _ _ _ h0 => WH_obj (show ct 50 1 = some (.invokespecial 3, 1, [427, 124, 125]) by decide +kernel) h0 (Nat.le_of_ble_eq_true rfl),
  fun _ _ _ _ _ _ => WP_s (show ct 50 4 = some (.aload_n 0, 0, []) by decide +kernel) rfl,
  fun _ _ _ _ _ _ => WP_s (show ct 50 5 = some (.iconst 0, 0, []) by decide +kernel) rfl,
  fun _ _ _ _ _ _ _ h0 h1 => WH_newa (show ct 50 6 = some (.newarray .byte, 1, [101, 208]) by decide +kernel) (by decide) h0 h1,
  fun _ _ _ _ _ _ _ _ ht => WH_pR (show ct 50 8 = some (.putfield 9, 1, [6, 2, 2, 0, 430]) by decide +kernel) ht,
  fun _ _ _ _ _ _ => WP_s (show ct 50 11 = some (.aload_n 0, 0, []) by decide +kernel) rfl,
  fun _ _ _ _ _ _ => WP_s (show ct 50 12 = some (.iconst 0, 0, []) by decide +kernel) rfl,
  fun _ _ _ _ _ _ _ h0 h1 => WH_newa (show ct 50 13 = some (.newarray .int, 1, [100, 209]) by decide +kernel) (by decide) h0 h1,
  fun _ _ _ _ _ _ _ _ ht => WH_pR (show ct 50 15 = some (.putfield 15, 1, [6, 3, 2, 0, 431]) by decide +kernel) ht,
  fun _ _ _ _ _ _ => WP_s (show ct 50 18 = some (.aload_n 0, 0, []) by decide +kernel) rfl,
  fun _ _ _ _ _ _ => WP_s (show ct 50 19 = some (.iconst (-1), 0, []) by decide +kernel) rfl,
  fun _ _ _ _ _ _ _ _ ht => WH_pI (show ct 50 20 = some (.putfield 19, 1, [6, 6, 0, 0, 434]) by decide +kernel) ht,
  fun _ _ _ _ _ _ => WP_s (show ct 50 23 = some (.aload_n 0, 0, []) by decide +kernel) rfl,
  fun _ _ _ _ _ _ => WP_s (show ct 50 24 = some (.aload_n 1, 0, []) by decide +kernel) rfl,
  fun _ _ _ _ _ _ _ _ ht => WH_pR (show ct 50 25 = some (.putfield 23, 1, [6, 0, 2, 1, 428]) by decide +kernel) ht,
  fun _ _ _ _ _ _ => WP_s (show ct 50 28 = some (.aload_n 0, 0, []) by decide +kernel) rfl,
  fun _ _ _ _ _ _ => WP_s (show ct 50 29 = some (.aload_n 2, 0, []) by decide +kernel) rfl,
  fun _ _ _ _ _ _ _ _ ht => WH_pR (show ct 50 30 = some (.putfield 27, 1, [6, 1, 2, 1, 429]) by decide +kernel) ht,
  fun _ _ _ _ _ => WR_v (show ct 50 33 = some (.return_, 2, [0]) by decide +kernel)⟩
/-! 51: FewBowls$Reach.forget()V; loop heads [] -/
set_option maxRecDepth 10000 in
theorem w51 : (∀ (x0 : Nat) (st : List Value) (h : AH) (Q : Option Value → AH → Prop), WP 51 0 [.ref x0] (st) h Q ↔ WP 51 1 [.ref x0] (.ref x0 :: st) h Q) ∧
  (∀ (x0 : Nat) (st : List Value) (h : AH) (Q : Option Value → AH → Prop), WP 51 1 [.ref x0] (st) h Q ↔ WP 51 2 [.ref x0] (.int (-1) :: st) h Q) ∧
  (∀ (x0 : Nat) (y0 : Int32) (y1 : Nat) (st : List Value) (h : AH) (Q : Option Value → AH → Prop) (ht : hT h y1 = 7), WP 51 2 [.ref x0] (.int y0 :: .ref y1 :: st) h Q ↔ WP 51 5 [.ref x0] (st) (sI h y1 6 y0) Q) ∧
  (∀ (x0 : Nat) (h : AH) (Q : Option Value → AH → Prop), WP 51 5 [.ref x0] ([]) h Q ↔ Q none h) :=
  ⟨fun _ _ _ _ => WP_s (show ct 51 0 = some (.aload_n 0, 0, []) by decide +kernel) rfl,
  fun _ _ _ _ => WP_s (show ct 51 1 = some (.iconst (-1), 0, []) by decide +kernel) rfl,
  fun _ _ _ _ _ _ ht => WH_pI (show ct 51 2 = some (.putfield 19, 1, [6, 6, 0, 0, 434]) by decide +kernel) ht,
  fun _ _ _ => WR_v (show ct 51 5 = some (.return_, 2, [0]) by decide +kernel)⟩
/-! 52: FewBowls$Reach.leastBowls(LFewBowls$Net;II)I; loop heads [] -/
set_option maxRecDepth 10000 in
theorem w52 : (∀ (x0 : Nat) (x1 : Nat) (x2 : Int32) (x3 : Int32) (st : List Value) (h : AH) (Q : Option Value → AH → Prop), WP 52 0 [.ref x0, .ref x1, .int x2, .int x3] (st) h Q ↔ WP 52 1 [.ref x0, .ref x1, .int x2, .int x3] (.ref x0 :: st) h Q) ∧
  (∀ (x0 : Nat) (x1 : Nat) (x2 : Int32) (x3 : Int32) (st : List Value) (h : AH) (Q : Option Value → AH → Prop), WP 52 1 [.ref x0, .ref x1, .int x2, .int x3] (st) h Q ↔ WP 52 2 [.ref x0, .ref x1, .int x2, .int x3] (.ref x1 :: st) h Q) ∧
  (∀ (x0 : Nat) (x1 : Nat) (x2 : Int32) (x3 : Int32) (st : List Value) (h : AH) (Q : Option Value → AH → Prop), WP 52 2 [.ref x0, .ref x1, .int x2, .int x3] (st) h Q ↔ WP 52 3 [.ref x0, .ref x1, .int x2, .int x3] (.int x3 :: st) h Q) ∧
  (∀ (x0 : Nat) (x1 : Nat) (x2 : Int32) (x3 : Int32) (y2 : Nat) (y1 : Nat) (y0 : Int32) (h : AH) (Q : Option Value → AH → Prop) (ht : hT h y2 = 7), WP 52 3 [.ref x0, .ref x1, .int x2, .int x3] ([.int y0, .ref y1, .ref y2]) h Q ↔ WPM 56 [.ref y2, .ref y1, .int y0] h (fun r h' => WP 52 6 [.ref x0, .ref x1, .int x2, .int x3] (r.toList ++ []) h' Q)) ∧
  (∀ (x0 : Nat) (x1 : Nat) (x2 : Int32) (x3 : Int32) (st : List Value) (h : AH) (Q : Option Value → AH → Prop), WP 52 6 [.ref x0, .ref x1, .int x2, .int x3] (st) h Q ↔ WP 52 7 [.ref x0, .ref x1, .int x2, .int x3] (.ref x0 :: st) h Q) ∧
  (∀ (x0 : Nat) (x1 : Nat) (x2 : Int32) (x3 : Int32) (st : List Value) (h : AH) (Q : Option Value → AH → Prop), WP 52 7 [.ref x0, .ref x1, .int x2, .int x3] (st) h Q ↔ WP 52 8 [.ref x0, .ref x1, .int x2, .int x3] (.int x2 :: st) h Q) ∧
  (∀ (x0 : Nat) (x1 : Nat) (x2 : Int32) (x3 : Int32) (st : List Value) (h : AH) (Q : Option Value → AH → Prop), WP 52 8 [.ref x0, .ref x1, .int x2, .int x3] (st) h Q ↔ WP 52 9 [.ref x0, .ref x1, .int x2, .int x3] (.int x3 :: st) h Q) ∧
  (∀ (x0 : Nat) (x1 : Nat) (x2 : Int32) (x3 : Int32) (st : List Value) (h : AH) (Q : Option Value → AH → Prop), WP 52 9 [.ref x0, .ref x1, .int x2, .int x3] (st) h Q ↔ WP 52 10 [.ref x0, .ref x1, .int x2, .int x3] (.ref x1 :: st) h Q) ∧
  (∀ (x0 : Nat) (x1 : Nat) (x2 : Int32) (x3 : Int32) (y0 : Nat) (st : List Value) (h : AH) (Q : Option Value → AH → Prop) (ht : hT h y0 = 4), WP 52 10 [.ref x0, .ref x1, .int x2, .int x3] (.ref y0 :: st) h Q ↔ WP 52 13 [.ref x0, .ref x1, .int x2, .int x3] (.int (hI h y0 0) :: st) h Q) ∧
  (∀ (x0 : Nat) (x1 : Nat) (x2 : Int32) (x3 : Int32) (y3 : Nat) (y2 : Int32) (y1 : Int32) (y0 : Int32) (h : AH) (Q : Option Value → AH → Prop) (ht : hT h y3 = 7), WP 52 13 [.ref x0, .ref x1, .int x2, .int x3] ([.int y0, .int y1, .int y2, .ref y3]) h Q ↔ WPM 58 [.ref y3, .int y2, .int y1, .int y0] h (fun r h' => WP 52 16 [.ref x0, .ref x1, .int x2, .int x3] (r.toList ++ []) h' Q)) ∧
  (∀ (x0 : Nat) (x1 : Nat) (x2 : Int32) (x3 : Int32) (y0 : Int32) (h : AH) (Q : Option Value → AH → Prop), WP 52 16 [.ref x0, .ref x1, .int x2, .int x3] ([.int y0]) h Q ↔ Q (some (.int y0)) h) :=
  ⟨fun _ _ _ _ _ _ _ => WP_s (show ct 52 0 = some (.aload_n 0, 0, []) by decide +kernel) rfl,
  fun _ _ _ _ _ _ _ => WP_s (show ct 52 1 = some (.aload_n 1, 0, []) by decide +kernel) rfl,
  fun _ _ _ _ _ _ _ => WP_s (show ct 52 2 = some (.iload_n 3, 0, []) by decide +kernel) rfl,
  fun _ _ _ _ _ _ _ _ _ ht => WC_1 (show ct 52 3 = some (.invokevirtual 31, 3, [56, 3, 1, 7, 0, 773, 775, 18]) by decide +kernel) (Nat.le_of_ble_eq_true rfl) (Nat.le_of_ble_eq_true rfl) rfl rfl ht,
  fun _ _ _ _ _ _ _ => WP_s (show ct 52 6 = some (.aload_n 0, 0, []) by decide +kernel) rfl,
  fun _ _ _ _ _ _ _ => WP_s (show ct 52 7 = some (.iload_n 2, 0, []) by decide +kernel) rfl,
  fun _ _ _ _ _ _ _ => WP_s (show ct 52 8 = some (.iload_n 3, 0, []) by decide +kernel) rfl,
  fun _ _ _ _ _ _ _ => WP_s (show ct 52 9 = some (.aload_n 1, 0, []) by decide +kernel) rfl,
  fun _ _ _ _ _ _ _ _ ht => WH_gI (show ct 52 10 = some (.getfield 35, 1, [3, 0, 0, 133]) by decide +kernel) (by decide) ht,
  fun _ _ _ _ _ _ _ _ _ _ ht => WC_1 (show ct 52 13 = some (.invokevirtual 40, 3, [58, 4, 1, 7, 0, 804, 806, 21]) by decide +kernel) (Nat.le_of_ble_eq_true rfl) (Nat.le_of_ble_eq_true rfl) rfl rfl ht,
  fun _ _ _ _ _ _ _ => WR_i (show ct 52 16 = some (.ireturn, 2, [0]) by decide +kernel)⟩
/-! 53: FewBowls$Reach.setsWith(LFewBowls$Net;II)I; loop heads [24] -/
theorem w53_24 : ∀ (x0 : Nat) (x1 : Nat) (x2 : Int32) (x3 : Int32) (x4 : Int32) (x5 : Int32) (st : List Value) (h : AH) (Q : Option Value → AH → Prop), WP 53 24 [.ref x0, .ref x1, .int x2, .int x3, .int x4, .int x5] (st) h Q ↔ WP 53 26 [.ref x0, .ref x1, .int x2, .int x3, .int x4, .int x5] (.int x5 :: st) h Q := fun _ _ _ _ _ _ _ _ _ => WP_s (show ct 53 24 = some (.iload 5, 0, []) by decide +kernel) rfl
set_option maxRecDepth 10000 in
theorem w53 : (∀ (x0 : Nat) (x1 : Nat) (x2 : Int32) (x3 : Int32) (st : List Value) (h : AH) (Q : Option Value → AH → Prop), WP 53 0 [.ref x0, .ref x1, .int x2, .int x3, .retAddr 0, .retAddr 0] (st) h Q ↔ WP 53 1 [.ref x0, .ref x1, .int x2, .int x3, .retAddr 0, .retAddr 0] (.ref x0 :: st) h Q) ∧
  (∀ (x0 : Nat) (x1 : Nat) (x2 : Int32) (x3 : Int32) (st : List Value) (h : AH) (Q : Option Value → AH → Prop), WP 53 1 [.ref x0, .ref x1, .int x2, .int x3, .retAddr 0, .retAddr 0] (st) h Q ↔ WP 53 2 [.ref x0, .ref x1, .int x2, .int x3, .retAddr 0, .retAddr 0] (.ref x1 :: st) h Q) ∧
  (∀ (x0 : Nat) (x1 : Nat) (x2 : Int32) (x3 : Int32) (st : List Value) (h : AH) (Q : Option Value → AH → Prop), WP 53 2 [.ref x0, .ref x1, .int x2, .int x3, .retAddr 0, .retAddr 0] (st) h Q ↔ WP 53 3 [.ref x0, .ref x1, .int x2, .int x3, .retAddr 0, .retAddr 0] (.int x2 :: st) h Q) ∧
  (∀ (x0 : Nat) (x1 : Nat) (x2 : Int32) (x3 : Int32) (y2 : Nat) (y1 : Nat) (y0 : Int32) (h : AH) (Q : Option Value → AH → Prop) (ht : hT h y2 = 7), WP 53 3 [.ref x0, .ref x1, .int x2, .int x3, .retAddr 0, .retAddr 0] ([.int y0, .ref y1, .ref y2]) h Q ↔ WPM 56 [.ref y2, .ref y1, .int y0] h (fun r h' => WP 53 6 [.ref x0, .ref x1, .int x2, .int x3, .retAddr 0, .retAddr 0] (r.toList ++ []) h' Q)) ∧
  (∀ (x0 : Nat) (x1 : Nat) (x2 : Int32) (x3 : Int32) (st : List Value) (h : AH) (Q : Option Value → AH → Prop), WP 53 6 [.ref x0, .ref x1, .int x2, .int x3, .retAddr 0, .retAddr 0] (st) h Q ↔ WP 53 7 [.ref x0, .ref x1, .int x2, .int x3, .retAddr 0, .retAddr 0] (.ref x0 :: st) h Q) ∧
  (∀ (x0 : Nat) (x1 : Nat) (x2 : Int32) (x3 : Int32) (st : List Value) (h : AH) (Q : Option Value → AH → Prop), WP 53 7 [.ref x0, .ref x1, .int x2, .int x3, .retAddr 0, .retAddr 0] (st) h Q ↔ WP 53 8 [.ref x0, .ref x1, .int x2, .int x3, .retAddr 0, .retAddr 0] (.int x3 :: st) h Q) ∧
  (∀ (x0 : Nat) (x1 : Nat) (x2 : Int32) (x3 : Int32) (st : List Value) (h : AH) (Q : Option Value → AH → Prop), WP 53 8 [.ref x0, .ref x1, .int x2, .int x3, .retAddr 0, .retAddr 0] (st) h Q ↔ WP 53 9 [.ref x0, .ref x1, .int x2, .int x3, .retAddr 0, .retAddr 0] (.ref x1 :: st) h Q) ∧
  (∀ (x0 : Nat) (x1 : Nat) (x2 : Int32) (x3 : Int32) (y0 : Nat) (st : List Value) (h : AH) (Q : Option Value → AH → Prop) (ht : hT h y0 = 4), WP 53 9 [.ref x0, .ref x1, .int x2, .int x3, .retAddr 0, .retAddr 0] (.ref y0 :: st) h Q ↔ WP 53 12 [.ref x0, .ref x1, .int x2, .int x3, .retAddr 0, .retAddr 0] (.int (hI h y0 0) :: st) h Q) ∧
  (∀ (x0 : Nat) (x1 : Nat) (x2 : Int32) (x3 : Int32) (y2 : Nat) (y1 : Int32) (y0 : Int32) (h : AH) (Q : Option Value → AH → Prop), WP 53 12 [.ref x0, .ref x1, .int x2, .int x3, .retAddr 0, .retAddr 0] ([.int y0, .int y1, .ref y2]) h Q ↔ WP 53 15 [.ref x0, .ref x1, .int x2, .int x3, .retAddr 0, .retAddr 0] ([.int (if y0 < y1 then y0 else y1), .ref y2]) h Q) ∧
  (∀ (x0 : Nat) (x1 : Nat) (x2 : Int32) (x3 : Int32) (y1 : Nat) (y0 : Int32) (h : AH) (Q : Option Value → AH → Prop) (ht : hT h y1 = 7), WP 53 15 [.ref x0, .ref x1, .int x2, .int x3, .retAddr 0, .retAddr 0] ([.int y0, .ref y1]) h Q ↔ WPM 59 [.ref y1, .int y0] h (fun r h' => WP 53 18 [.ref x0, .ref x1, .int x2, .int x3, .retAddr 0, .retAddr 0] (r.toList ++ []) h' Q)) ∧
  (∀ (x0 : Nat) (x1 : Nat) (x2 : Int32) (x3 : Int32) (st : List Value) (h : AH) (Q : Option Value → AH → Prop), WP 53 18 [.ref x0, .ref x1, .int x2, .int x3, .retAddr 0, .retAddr 0] (st) h Q ↔ WP 53 19 [.ref x0, .ref x1, .int x2, .int x3, .retAddr 0, .retAddr 0] (.int (0) :: st) h Q) ∧
  (∀ (x0 : Nat) (x1 : Nat) (x2 : Int32) (x3 : Int32) (y0 : Int32) (st : List Value) (h : AH) (Q : Option Value → AH → Prop), WP 53 19 [.ref x0, .ref x1, .int x2, .int x3, .retAddr 0, .retAddr 0] (.int y0 :: st) h Q ↔ WP 53 21 [.ref x0, .ref x1, .int x2, .int x3, .int y0, .retAddr 0] (st) h Q) ∧
  (∀ (x0 : Nat) (x1 : Nat) (x2 : Int32) (x3 : Int32) (x4 : Int32) (st : List Value) (h : AH) (Q : Option Value → AH → Prop), WP 53 21 [.ref x0, .ref x1, .int x2, .int x3, .int x4, .retAddr 0] (st) h Q ↔ WP 53 22 [.ref x0, .ref x1, .int x2, .int x3, .int x4, .retAddr 0] (.int (0) :: st) h Q) ∧
  (∀ (x0 : Nat) (x1 : Nat) (x2 : Int32) (x3 : Int32) (x4 : Int32) (y0 : Int32) (st : List Value) (h : AH) (Q : Option Value → AH → Prop), WP 53 22 [.ref x0, .ref x1, .int x2, .int x3, .int x4, .retAddr 0] (.int y0 :: st) h Q ↔ WP 53 24 [.ref x0, .ref x1, .int x2, .int x3, .int x4, .int y0] (st) h Q) ∧
  (∀ (x0 : Nat) (x1 : Nat) (x2 : Int32) (x3 : Int32) (x4 : Int32) (x5 : Int32) (st : List Value) (h : AH) (Q : Option Value → AH → Prop), WP 53 26 [.ref x0, .ref x1, .int x2, .int x3, .int x4, .int x5] (st) h Q ↔ WP 53 27 [.ref x0, .ref x1, .int x2, .int x3, .int x4, .int x5] (.ref x0 :: st) h Q) ∧
  (∀ (x0 : Nat) (x1 : Nat) (x2 : Int32) (x3 : Int32) (x4 : Int32) (x5 : Int32) (y0 : Nat) (st : List Value) (h : AH) (Q : Option Value → AH → Prop) (ht : hT h y0 = 7), WP 53 27 [.ref x0, .ref x1, .int x2, .int x3, .int x4, .int x5] (.ref y0 :: st) h Q ↔ WP 53 30 [.ref x0, .ref x1, .int x2, .int x3, .int x4, .int x5] (.int (hI h y0 5) :: st) h Q) ∧
  (∀ (x0 : Nat) (x1 : Nat) (x2 : Int32) (x3 : Int32) (x4 : Int32) (x5 : Int32) (y0 : Int32) (y1 : Int32) (st : List Value) (h : AH) (Q : Option Value → AH → Prop), WP 53 30 [.ref x0, .ref x1, .int x2, .int x3, .int x4, .int x5] (.int y0 :: .int y1 :: st) h Q ↔ ((y0 ≤ y1 → WP 53 53 [.ref x0, .ref x1, .int x2, .int x3, .int x4, .int x5] (st) h Q) ∧ (¬ y0 ≤ y1 → WP 53 33 [.ref x0, .ref x1, .int x2, .int x3, .int x4, .int x5] (st) h Q))) ∧
  (∀ (x0 : Nat) (x1 : Nat) (x2 : Int32) (x3 : Int32) (x4 : Int32) (x5 : Int32) (st : List Value) (h : AH) (Q : Option Value → AH → Prop), WP 53 33 [.ref x0, .ref x1, .int x2, .int x3, .int x4, .int x5] (st) h Q ↔ WP 53 34 [.ref x0, .ref x1, .int x2, .int x3, .int x4, .int x5] (.ref x0 :: st) h Q) ∧
  (∀ (x0 : Nat) (x1 : Nat) (x2 : Int32) (x3 : Int32) (x4 : Int32) (x5 : Int32) (y0 : Nat) (st : List Value) (h : AH) (Q : Option Value → AH → Prop) (ht : hT h y0 = 7), WP 53 34 [.ref x0, .ref x1, .int x2, .int x3, .int x4, .int x5] (.ref y0 :: st) h Q ↔ WP 53 37 [.ref x0, .ref x1, .int x2, .int x3, .int x4, .int x5] (.ref (hR h y0 2) :: st) h Q) ∧
  (∀ (x0 : Nat) (x1 : Nat) (x2 : Int32) (x3 : Int32) (x4 : Int32) (x5 : Int32) (st : List Value) (h : AH) (Q : Option Value → AH → Prop), WP 53 37 [.ref x0, .ref x1, .int x2, .int x3, .int x4, .int x5] (st) h Q ↔ WP 53 39 [.ref x0, .ref x1, .int x2, .int x3, .int x4, .int x5] (.int x5 :: st) h Q) ∧
  (∀ (x0 : Nat) (x1 : Nat) (x2 : Int32) (x3 : Int32) (x4 : Int32) (x5 : Int32) (y0 : Int32) (y1 : Nat) (st : List Value) (h : AH) (Q : Option Value → AH → Prop) (ht : hT h y1 = 101 ∨ hT h y1 = 102) (hi : inb y0 (hL h y1) = true), WP 53 39 [.ref x0, .ref x1, .int x2, .int x3, .int x4, .int x5] (.int y0 :: .ref y1 :: st) h Q ↔ WP 53 40 [.ref x0, .ref x1, .int x2, .int x3, .int x4, .int x5] (.int (hI h y1 y0.toNatClampNeg) :: st) h Q) ∧
  (∀ (x0 : Nat) (x1 : Nat) (x2 : Int32) (x3 : Int32) (x4 : Int32) (x5 : Int32) (st : List Value) (h : AH) (Q : Option Value → AH → Prop), WP 53 40 [.ref x0, .ref x1, .int x2, .int x3, .int x4, .int x5] (st) h Q ↔ WP 53 41 [.ref x0, .ref x1, .int x2, .int x3, .int x4, .int x5] (.int x3 :: st) h Q) ∧
  (∀ (x0 : Nat) (x1 : Nat) (x2 : Int32) (x3 : Int32) (x4 : Int32) (x5 : Int32) (y0 : Int32) (y1 : Int32) (st : List Value) (h : AH) (Q : Option Value → AH → Prop), WP 53 41 [.ref x0, .ref x1, .int x2, .int x3, .int x4, .int x5] (.int y0 :: .int y1 :: st) h Q ↔ ((y0 < y1 → WP 53 47 [.ref x0, .ref x1, .int x2, .int x3, .int x4, .int x5] (st) h Q) ∧ (¬ y0 < y1 → WP 53 44 [.ref x0, .ref x1, .int x2, .int x3, .int x4, .int x5] (st) h Q))) ∧
  (∀ (x0 : Nat) (x1 : Nat) (x2 : Int32) (x3 : Int32) (x4 : Int32) (x5 : Int32) (st : List Value) (h : AH) (Q : Option Value → AH → Prop), WP 53 44 [.ref x0, .ref x1, .int x2, .int x3, .int x4, .int x5] (st) h Q ↔ WP 53 47 [.ref x0, .ref x1, .int x2, .int x3, .int (x4 + (1)), .int x5] (st) h Q) ∧
  (∀ (x0 : Nat) (x1 : Nat) (x2 : Int32) (x3 : Int32) (x4 : Int32) (x5 : Int32) (st : List Value) (h : AH) (Q : Option Value → AH → Prop), WP 53 47 [.ref x0, .ref x1, .int x2, .int x3, .int x4, .int x5] (st) h Q ↔ WP 53 50 [.ref x0, .ref x1, .int x2, .int x3, .int x4, .int (x5 + (1))] (st) h Q) ∧
  (∀ (x0 : Nat) (x1 : Nat) (x2 : Int32) (x3 : Int32) (x4 : Int32) (x5 : Int32) (st : List Value) (h : AH) (Q : Option Value → AH → Prop), WP 53 50 [.ref x0, .ref x1, .int x2, .int x3, .int x4, .int x5] (st) h Q ↔ WP 53 24 [.ref x0, .ref x1, .int x2, .int x3, .int x4, .int x5] (st) h Q) ∧
  (∀ (x0 : Nat) (x1 : Nat) (x2 : Int32) (x3 : Int32) (x4 : Int32) (x5 : Int32) (st : List Value) (h : AH) (Q : Option Value → AH → Prop), WP 53 53 [.ref x0, .ref x1, .int x2, .int x3, .int x4, .int x5] (st) h Q ↔ WP 53 55 [.ref x0, .ref x1, .int x2, .int x3, .int x4, .int x5] (.int x4 :: st) h Q) ∧
  (∀ (x0 : Nat) (x1 : Nat) (x2 : Int32) (x3 : Int32) (x4 : Int32) (x5 : Int32) (y0 : Int32) (h : AH) (Q : Option Value → AH → Prop), WP 53 55 [.ref x0, .ref x1, .int x2, .int x3, .int x4, .int x5] ([.int y0]) h Q ↔ Q (some (.int y0)) h) :=
  ⟨fun _ _ _ _ _ _ _ => WP_s (show ct 53 0 = some (.aload_n 0, 0, []) by decide +kernel) rfl,
  fun _ _ _ _ _ _ _ => WP_s (show ct 53 1 = some (.aload_n 1, 0, []) by decide +kernel) rfl,
  fun _ _ _ _ _ _ _ => WP_s (show ct 53 2 = some (.iload_n 2, 0, []) by decide +kernel) rfl,
  fun _ _ _ _ _ _ _ _ _ ht => WC_1 (show ct 53 3 = some (.invokevirtual 31, 3, [56, 3, 1, 7, 0, 773, 775, 18]) by decide +kernel) (Nat.le_of_ble_eq_true rfl) (Nat.le_of_ble_eq_true rfl) rfl rfl ht,
  fun _ _ _ _ _ _ _ => WP_s (show ct 53 6 = some (.aload_n 0, 0, []) by decide +kernel) rfl,
  fun _ _ _ _ _ _ _ => WP_s (show ct 53 7 = some (.iload_n 3, 0, []) by decide +kernel) rfl,
  fun _ _ _ _ _ _ _ => WP_s (show ct 53 8 = some (.aload_n 1, 0, []) by decide +kernel) rfl,
  fun _ _ _ _ _ _ _ _ ht => WH_gI (show ct 53 9 = some (.getfield 35, 1, [3, 0, 0, 133]) by decide +kernel) (by decide) ht,
  fun _ _ _ _ _ _ _ _ _ => WH_min (show ct 53 12 = some (.invokestatic 44, 1, [1, 957, 641, 112, 642]) by decide +kernel) (Nat.le_of_ble_eq_true rfl),
  fun _ _ _ _ _ _ _ _ ht => WC_1 (show ct 53 15 = some (.invokevirtual 50, 3, [59, 2, 1, 7, 0, 809, 811, 22]) by decide +kernel) (Nat.le_of_ble_eq_true rfl) (Nat.le_of_ble_eq_true rfl) rfl rfl ht,
  fun _ _ _ _ _ _ _ => WP_s (show ct 53 18 = some (.iconst 0, 0, []) by decide +kernel) rfl,
  fun _ _ _ _ _ _ _ _ => WP_s (show ct 53 19 = some (.istore 4, 0, []) by decide +kernel) rfl,
  fun _ _ _ _ _ _ _ _ => WP_s (show ct 53 21 = some (.iconst 0, 0, []) by decide +kernel) rfl,
  fun _ _ _ _ _ _ _ _ _ => WP_s (show ct 53 22 = some (.istore 5, 0, []) by decide +kernel) rfl,
  fun _ _ _ _ _ _ _ _ _ => WP_s (show ct 53 26 = some (.aload_n 0, 0, []) by decide +kernel) rfl,
  fun _ _ _ _ _ _ _ _ _ _ ht => WH_gI (show ct 53 27 = some (.getfield 54, 1, [6, 5, 0, 433]) by decide +kernel) (by decide) ht,
  fun _ _ _ _ _ _ _ _ _ _ _ => WI_ge (show ct 53 30 = some (.if_icmp .ge 23, 0, [53]) by decide +kernel) (by decide),
  fun _ _ _ _ _ _ _ _ _ => WP_s (show ct 53 33 = some (.aload_n 0, 0, []) by decide +kernel) rfl,
  fun _ _ _ _ _ _ _ _ _ _ ht => WH_gR (show ct 53 34 = some (.getfield 9, 1, [6, 2, 2, 430]) by decide +kernel) ht,
  fun _ _ _ _ _ _ _ _ _ => WP_s (show ct 53 37 = some (.iload 5, 0, []) by decide +kernel) rfl,
  fun _ _ _ _ _ _ _ _ _ _ _ ht hi => WH_bald (show ct 53 39 = some (.baload, 1, []) by decide +kernel) ht hi,
  fun _ _ _ _ _ _ _ _ _ => WP_s (show ct 53 40 = some (.iload_n 3, 0, []) by decide +kernel) rfl,
  fun _ _ _ _ _ _ _ _ _ _ _ => WI_gt (show ct 53 41 = some (.if_icmp .gt 6, 0, [47]) by decide +kernel) (by decide),
  fun _ _ _ _ _ _ _ _ _ => WP_s (show ct 53 44 = some (.iinc 4 1, 0, []) by decide +kernel) rfl,
  fun _ _ _ _ _ _ _ _ _ => WP_s (show ct 53 47 = some (.iinc 5 1, 0, []) by decide +kernel) rfl,
  fun _ _ _ _ _ _ _ _ _ => WP_s (show ct 53 50 = some (.goto (-26), 0, [24]) by decide +kernel) rfl,
  fun _ _ _ _ _ _ _ _ _ => WP_s (show ct 53 53 = some (.iload 4, 0, []) by decide +kernel) rfl,
  fun _ _ _ _ _ _ _ _ _ => WR_i (show ct 53 55 = some (.ireturn, 2, [0]) by decide +kernel)⟩
/-! 54: FewBowls$Reach.canFill(LFewBowls$Net;III)Z; loop heads [] -/
set_option maxRecDepth 10000 in
theorem w54 : (∀ (x0 : Nat) (x1 : Nat) (x2 : Int32) (x3 : Int32) (x4 : Int32) (st : List Value) (h : AH) (Q : Option Value → AH → Prop), WP 54 0 [.ref x0, .ref x1, .int x2, .int x3, .int x4] (st) h Q ↔ WP 54 1 [.ref x0, .ref x1, .int x2, .int x3, .int x4] (.ref x0 :: st) h Q) ∧
  (∀ (x0 : Nat) (x1 : Nat) (x2 : Int32) (x3 : Int32) (x4 : Int32) (st : List Value) (h : AH) (Q : Option Value → AH → Prop), WP 54 1 [.ref x0, .ref x1, .int x2, .int x3, .int x4] (st) h Q ↔ WP 54 2 [.ref x0, .ref x1, .int x2, .int x3, .int x4] (.ref x1 :: st) h Q) ∧
  (∀ (x0 : Nat) (x1 : Nat) (x2 : Int32) (x3 : Int32) (x4 : Int32) (st : List Value) (h : AH) (Q : Option Value → AH → Prop), WP 54 2 [.ref x0, .ref x1, .int x2, .int x3, .int x4] (st) h Q ↔ WP 54 3 [.ref x0, .ref x1, .int x2, .int x3, .int x4] (.int x2 :: st) h Q) ∧
  (∀ (x0 : Nat) (x1 : Nat) (x2 : Int32) (x3 : Int32) (x4 : Int32) (y2 : Nat) (y1 : Nat) (y0 : Int32) (h : AH) (Q : Option Value → AH → Prop) (ht : hT h y2 = 7), WP 54 3 [.ref x0, .ref x1, .int x2, .int x3, .int x4] ([.int y0, .ref y1, .ref y2]) h Q ↔ WPM 56 [.ref y2, .ref y1, .int y0] h (fun r h' => WP 54 6 [.ref x0, .ref x1, .int x2, .int x3, .int x4] (r.toList ++ []) h' Q)) ∧
  (∀ (x0 : Nat) (x1 : Nat) (x2 : Int32) (x3 : Int32) (x4 : Int32) (st : List Value) (h : AH) (Q : Option Value → AH → Prop), WP 54 6 [.ref x0, .ref x1, .int x2, .int x3, .int x4] (st) h Q ↔ WP 54 7 [.ref x0, .ref x1, .int x2, .int x3, .int x4] (.ref x0 :: st) h Q) ∧
  (∀ (x0 : Nat) (x1 : Nat) (x2 : Int32) (x3 : Int32) (x4 : Int32) (st : List Value) (h : AH) (Q : Option Value → AH → Prop), WP 54 7 [.ref x0, .ref x1, .int x2, .int x3, .int x4] (st) h Q ↔ WP 54 8 [.ref x0, .ref x1, .int x2, .int x3, .int x4] (.int x3 :: st) h Q) ∧
  (∀ (x0 : Nat) (x1 : Nat) (x2 : Int32) (x3 : Int32) (x4 : Int32) (st : List Value) (h : AH) (Q : Option Value → AH → Prop), WP 54 8 [.ref x0, .ref x1, .int x2, .int x3, .int x4] (st) h Q ↔ WP 54 9 [.ref x0, .ref x1, .int x2, .int x3, .int x4] (.ref x1 :: st) h Q) ∧
  (∀ (x0 : Nat) (x1 : Nat) (x2 : Int32) (x3 : Int32) (x4 : Int32) (y0 : Nat) (st : List Value) (h : AH) (Q : Option Value → AH → Prop) (ht : hT h y0 = 4), WP 54 9 [.ref x0, .ref x1, .int x2, .int x3, .int x4] (.ref y0 :: st) h Q ↔ WP 54 12 [.ref x0, .ref x1, .int x2, .int x3, .int x4] (.int (hI h y0 0) :: st) h Q) ∧
  (∀ (x0 : Nat) (x1 : Nat) (x2 : Int32) (x3 : Int32) (x4 : Int32) (y2 : Nat) (y1 : Int32) (y0 : Int32) (h : AH) (Q : Option Value → AH → Prop), WP 54 12 [.ref x0, .ref x1, .int x2, .int x3, .int x4] ([.int y0, .int y1, .ref y2]) h Q ↔ WP 54 15 [.ref x0, .ref x1, .int x2, .int x3, .int x4] ([.int (if y0 < y1 then y0 else y1), .ref y2]) h Q) ∧
  (∀ (x0 : Nat) (x1 : Nat) (x2 : Int32) (x3 : Int32) (x4 : Int32) (y1 : Nat) (y0 : Int32) (h : AH) (Q : Option Value → AH → Prop) (ht : hT h y1 = 7), WP 54 15 [.ref x0, .ref x1, .int x2, .int x3, .int x4] ([.int y0, .ref y1]) h Q ↔ WPM 59 [.ref y1, .int y0] h (fun r h' => WP 54 18 [.ref x0, .ref x1, .int x2, .int x3, .int x4] (r.toList ++ []) h' Q)) ∧
  (∀ (x0 : Nat) (x1 : Nat) (x2 : Int32) (x3 : Int32) (x4 : Int32) (st : List Value) (h : AH) (Q : Option Value → AH → Prop), WP 54 18 [.ref x0, .ref x1, .int x2, .int x3, .int x4] (st) h Q ↔ WP 54 20 [.ref x0, .ref x1, .int x2, .int x3, .int x4] (.int x4 :: st) h Q) ∧
  (∀ (x0 : Nat) (x1 : Nat) (x2 : Int32) (x3 : Int32) (x4 : Int32) (y0 : Int32) (st : List Value) (h : AH) (Q : Option Value → AH → Prop), WP 54 20 [.ref x0, .ref x1, .int x2, .int x3, .int x4] (.int y0 :: st) h Q ↔ ((y0 < 0 → WP 54 47 [.ref x0, .ref x1, .int x2, .int x3, .int x4] (st) h Q) ∧ (¬ y0 < 0 → WP 54 23 [.ref x0, .ref x1, .int x2, .int x3, .int x4] (st) h Q))) ∧
  (∀ (x0 : Nat) (x1 : Nat) (x2 : Int32) (x3 : Int32) (x4 : Int32) (st : List Value) (h : AH) (Q : Option Value → AH → Prop), WP 54 23 [.ref x0, .ref x1, .int x2, .int x3, .int x4] (st) h Q ↔ WP 54 25 [.ref x0, .ref x1, .int x2, .int x3, .int x4] (.int x4 :: st) h Q) ∧
  (∀ (x0 : Nat) (x1 : Nat) (x2 : Int32) (x3 : Int32) (x4 : Int32) (st : List Value) (h : AH) (Q : Option Value → AH → Prop), WP 54 25 [.ref x0, .ref x1, .int x2, .int x3, .int x4] (st) h Q ↔ WP 54 26 [.ref x0, .ref x1, .int x2, .int x3, .int x4] (.ref x0 :: st) h Q) ∧
  (∀ (x0 : Nat) (x1 : Nat) (x2 : Int32) (x3 : Int32) (x4 : Int32) (y0 : Nat) (st : List Value) (h : AH) (Q : Option Value → AH → Prop) (ht : hT h y0 = 7), WP 54 26 [.ref x0, .ref x1, .int x2, .int x3, .int x4] (.ref y0 :: st) h Q ↔ WP 54 29 [.ref x0, .ref x1, .int x2, .int x3, .int x4] (.int (hI h y0 5) :: st) h Q) ∧
  (∀ (x0 : Nat) (x1 : Nat) (x2 : Int32) (x3 : Int32) (x4 : Int32) (y0 : Int32) (y1 : Int32) (st : List Value) (h : AH) (Q : Option Value → AH → Prop), WP 54 29 [.ref x0, .ref x1, .int x2, .int x3, .int x4] (.int y0 :: .int y1 :: st) h Q ↔ ((y0 ≤ y1 → WP 54 47 [.ref x0, .ref x1, .int x2, .int x3, .int x4] (st) h Q) ∧ (¬ y0 ≤ y1 → WP 54 32 [.ref x0, .ref x1, .int x2, .int x3, .int x4] (st) h Q))) ∧
  (∀ (x0 : Nat) (x1 : Nat) (x2 : Int32) (x3 : Int32) (x4 : Int32) (st : List Value) (h : AH) (Q : Option Value → AH → Prop), WP 54 32 [.ref x0, .ref x1, .int x2, .int x3, .int x4] (st) h Q ↔ WP 54 33 [.ref x0, .ref x1, .int x2, .int x3, .int x4] (.ref x0 :: st) h Q) ∧
  (∀ (x0 : Nat) (x1 : Nat) (x2 : Int32) (x3 : Int32) (x4 : Int32) (y0 : Nat) (st : List Value) (h : AH) (Q : Option Value → AH → Prop) (ht : hT h y0 = 7), WP 54 33 [.ref x0, .ref x1, .int x2, .int x3, .int x4] (.ref y0 :: st) h Q ↔ WP 54 36 [.ref x0, .ref x1, .int x2, .int x3, .int x4] (.ref (hR h y0 2) :: st) h Q) ∧
  (∀ (x0 : Nat) (x1 : Nat) (x2 : Int32) (x3 : Int32) (x4 : Int32) (st : List Value) (h : AH) (Q : Option Value → AH → Prop), WP 54 36 [.ref x0, .ref x1, .int x2, .int x3, .int x4] (st) h Q ↔ WP 54 38 [.ref x0, .ref x1, .int x2, .int x3, .int x4] (.int x4 :: st) h Q) ∧
  (∀ (x0 : Nat) (x1 : Nat) (x2 : Int32) (x3 : Int32) (x4 : Int32) (y0 : Int32) (y1 : Nat) (st : List Value) (h : AH) (Q : Option Value → AH → Prop) (ht : hT h y1 = 101 ∨ hT h y1 = 102) (hi : inb y0 (hL h y1) = true), WP 54 38 [.ref x0, .ref x1, .int x2, .int x3, .int x4] (.int y0 :: .ref y1 :: st) h Q ↔ WP 54 39 [.ref x0, .ref x1, .int x2, .int x3, .int x4] (.int (hI h y1 y0.toNatClampNeg) :: st) h Q) ∧
  (∀ (x0 : Nat) (x1 : Nat) (x2 : Int32) (x3 : Int32) (x4 : Int32) (st : List Value) (h : AH) (Q : Option Value → AH → Prop), WP 54 39 [.ref x0, .ref x1, .int x2, .int x3, .int x4] (st) h Q ↔ WP 54 40 [.ref x0, .ref x1, .int x2, .int x3, .int x4] (.int x3 :: st) h Q) ∧
  (∀ (x0 : Nat) (x1 : Nat) (x2 : Int32) (x3 : Int32) (x4 : Int32) (y0 : Int32) (y1 : Int32) (st : List Value) (h : AH) (Q : Option Value → AH → Prop), WP 54 40 [.ref x0, .ref x1, .int x2, .int x3, .int x4] (.int y0 :: .int y1 :: st) h Q ↔ ((y0 < y1 → WP 54 47 [.ref x0, .ref x1, .int x2, .int x3, .int x4] (st) h Q) ∧ (¬ y0 < y1 → WP 54 43 [.ref x0, .ref x1, .int x2, .int x3, .int x4] (st) h Q))) ∧
  (∀ (x0 : Nat) (x1 : Nat) (x2 : Int32) (x3 : Int32) (x4 : Int32) (st : List Value) (h : AH) (Q : Option Value → AH → Prop), WP 54 43 [.ref x0, .ref x1, .int x2, .int x3, .int x4] (st) h Q ↔ WP 54 44 [.ref x0, .ref x1, .int x2, .int x3, .int x4] (.int (1) :: st) h Q) ∧
  (∀ (x0 : Nat) (x1 : Nat) (x2 : Int32) (x3 : Int32) (x4 : Int32) (st : List Value) (h : AH) (Q : Option Value → AH → Prop), WP 54 44 [.ref x0, .ref x1, .int x2, .int x3, .int x4] (st) h Q ↔ WP 54 48 [.ref x0, .ref x1, .int x2, .int x3, .int x4] (st) h Q) ∧
  (∀ (x0 : Nat) (x1 : Nat) (x2 : Int32) (x3 : Int32) (x4 : Int32) (st : List Value) (h : AH) (Q : Option Value → AH → Prop), WP 54 47 [.ref x0, .ref x1, .int x2, .int x3, .int x4] (st) h Q ↔ WP 54 48 [.ref x0, .ref x1, .int x2, .int x3, .int x4] (.int (0) :: st) h Q) ∧
  (∀ (x0 : Nat) (x1 : Nat) (x2 : Int32) (x3 : Int32) (x4 : Int32) (y0 : Int32) (h : AH) (Q : Option Value → AH → Prop) (hz : y0 = 0 ∨ y0 = 1), WP 54 48 [.ref x0, .ref x1, .int x2, .int x3, .int x4] ([.int y0]) h Q ↔ Q (some (.int y0)) h) :=
  ⟨fun _ _ _ _ _ _ _ _ => WP_s (show ct 54 0 = some (.aload_n 0, 0, []) by decide +kernel) rfl,
  fun _ _ _ _ _ _ _ _ => WP_s (show ct 54 1 = some (.aload_n 1, 0, []) by decide +kernel) rfl,
  fun _ _ _ _ _ _ _ _ => WP_s (show ct 54 2 = some (.iload_n 2, 0, []) by decide +kernel) rfl,
  fun _ _ _ _ _ _ _ _ _ _ ht => WC_1 (show ct 54 3 = some (.invokevirtual 31, 3, [56, 3, 1, 7, 0, 773, 775, 18]) by decide +kernel) (Nat.le_of_ble_eq_true rfl) (Nat.le_of_ble_eq_true rfl) rfl rfl ht,
  fun _ _ _ _ _ _ _ _ => WP_s (show ct 54 6 = some (.aload_n 0, 0, []) by decide +kernel) rfl,
  fun _ _ _ _ _ _ _ _ => WP_s (show ct 54 7 = some (.iload_n 3, 0, []) by decide +kernel) rfl,
  fun _ _ _ _ _ _ _ _ => WP_s (show ct 54 8 = some (.aload_n 1, 0, []) by decide +kernel) rfl,
  fun _ _ _ _ _ _ _ _ _ ht => WH_gI (show ct 54 9 = some (.getfield 35, 1, [3, 0, 0, 133]) by decide +kernel) (by decide) ht,
  fun _ _ _ _ _ _ _ _ _ _ => WH_min (show ct 54 12 = some (.invokestatic 44, 1, [1, 957, 641, 112, 642]) by decide +kernel) (Nat.le_of_ble_eq_true rfl),
  fun _ _ _ _ _ _ _ _ _ ht => WC_1 (show ct 54 15 = some (.invokevirtual 50, 3, [59, 2, 1, 7, 0, 809, 811, 22]) by decide +kernel) (Nat.le_of_ble_eq_true rfl) (Nat.le_of_ble_eq_true rfl) rfl rfl ht,
  fun _ _ _ _ _ _ _ _ => WP_s (show ct 54 18 = some (.iload 4, 0, []) by decide +kernel) rfl,
  fun _ _ _ _ _ _ _ _ _ => WZ_lt (show ct 54 20 = some (.ifCond .lt 27, 0, [47]) by decide +kernel) (by decide),
  fun _ _ _ _ _ _ _ _ => WP_s (show ct 54 23 = some (.iload 4, 0, []) by decide +kernel) rfl,
  fun _ _ _ _ _ _ _ _ => WP_s (show ct 54 25 = some (.aload_n 0, 0, []) by decide +kernel) rfl,
  fun _ _ _ _ _ _ _ _ _ ht => WH_gI (show ct 54 26 = some (.getfield 54, 1, [6, 5, 0, 433]) by decide +kernel) (by decide) ht,
  fun _ _ _ _ _ _ _ _ _ _ => WI_ge (show ct 54 29 = some (.if_icmp .ge 18, 0, [47]) by decide +kernel) (by decide),
  fun _ _ _ _ _ _ _ _ => WP_s (show ct 54 32 = some (.aload_n 0, 0, []) by decide +kernel) rfl,
  fun _ _ _ _ _ _ _ _ _ ht => WH_gR (show ct 54 33 = some (.getfield 9, 1, [6, 2, 2, 430]) by decide +kernel) ht,
  fun _ _ _ _ _ _ _ _ => WP_s (show ct 54 36 = some (.iload 4, 0, []) by decide +kernel) rfl,
  fun _ _ _ _ _ _ _ _ _ _ ht hi => WH_bald (show ct 54 38 = some (.baload, 1, []) by decide +kernel) ht hi,
  fun _ _ _ _ _ _ _ _ => WP_s (show ct 54 39 = some (.iload_n 3, 0, []) by decide +kernel) rfl,
  fun _ _ _ _ _ _ _ _ _ _ => WI_gt (show ct 54 40 = some (.if_icmp .gt 7, 0, [47]) by decide +kernel) (by decide),
  fun _ _ _ _ _ _ _ _ => WP_s (show ct 54 43 = some (.iconst 1, 0, []) by decide +kernel) rfl,
  fun _ _ _ _ _ _ _ _ => WP_s (show ct 54 44 = some (.goto 4, 0, [48]) by decide +kernel) rfl,
  fun _ _ _ _ _ _ _ _ => WP_s (show ct 54 47 = some (.iconst 0, 0, []) by decide +kernel) rfl,
  fun _ _ _ _ _ _ _ _ hz => WR_z (show ct 54 48 = some (.ireturn, 2, [1]) by decide +kernel) hz⟩
/-! 55: FewBowls$Reach.bestBought(LFewBowls$Net;I)I; loop heads [26] -/
theorem w55_26 : ∀ (x0 : Nat) (x1 : Nat) (x2 : Int32) (x3 : Int32) (x4 : Int32) (x5 : Int32) (x6 : Value) (st : List Value) (h : AH) (Q : Option Value → AH → Prop), WP 55 26 [.ref x0, .ref x1, .int x2, .int x3, .int x4, .int x5, x6] (st) h Q ↔ WP 55 28 [.ref x0, .ref x1, .int x2, .int x3, .int x4, .int x5, x6] (.int x5 :: st) h Q := fun _ _ _ _ _ _ _ _ _ _ => WP_s (show ct 55 26 = some (.iload 5, 0, []) by decide +kernel) rfl
set_option maxRecDepth 10000 in
theorem w55_a : (∀ (x0 : Nat) (x1 : Nat) (x2 : Int32) (st : List Value) (h : AH) (Q : Option Value → AH → Prop), WP 55 0 [.ref x0, .ref x1, .int x2, .retAddr 0, .retAddr 0, .retAddr 0, .retAddr 0] (st) h Q ↔ WP 55 1 [.ref x0, .ref x1, .int x2, .retAddr 0, .retAddr 0, .retAddr 0, .retAddr 0] (.ref x0 :: st) h Q) ∧
  (∀ (x0 : Nat) (x1 : Nat) (x2 : Int32) (st : List Value) (h : AH) (Q : Option Value → AH → Prop), WP 55 1 [.ref x0, .ref x1, .int x2, .retAddr 0, .retAddr 0, .retAddr 0, .retAddr 0] (st) h Q ↔ WP 55 2 [.ref x0, .ref x1, .int x2, .retAddr 0, .retAddr 0, .retAddr 0, .retAddr 0] (.ref x1 :: st) h Q) ∧
  (∀ (x0 : Nat) (x1 : Nat) (x2 : Int32) (st : List Value) (h : AH) (Q : Option Value → AH → Prop), WP 55 2 [.ref x0, .ref x1, .int x2, .retAddr 0, .retAddr 0, .retAddr 0, .retAddr 0] (st) h Q ↔ WP 55 3 [.ref x0, .ref x1, .int x2, .retAddr 0, .retAddr 0, .retAddr 0, .retAddr 0] (.int x2 :: st) h Q) ∧
  (∀ (x0 : Nat) (x1 : Nat) (x2 : Int32) (y2 : Nat) (y1 : Nat) (y0 : Int32) (h : AH) (Q : Option Value → AH → Prop) (ht : hT h y2 = 7), WP 55 3 [.ref x0, .ref x1, .int x2, .retAddr 0, .retAddr 0, .retAddr 0, .retAddr 0] ([.int y0, .ref y1, .ref y2]) h Q ↔ WPM 56 [.ref y2, .ref y1, .int y0] h (fun r h' => WP 55 6 [.ref x0, .ref x1, .int x2, .retAddr 0, .retAddr 0, .retAddr 0, .retAddr 0] (r.toList ++ []) h' Q)) ∧
  (∀ (x0 : Nat) (x1 : Nat) (x2 : Int32) (st : List Value) (h : AH) (Q : Option Value → AH → Prop), WP 55 6 [.ref x0, .ref x1, .int x2, .retAddr 0, .retAddr 0, .retAddr 0, .retAddr 0] (st) h Q ↔ WP 55 7 [.ref x0, .ref x1, .int x2, .retAddr 0, .retAddr 0, .retAddr 0, .retAddr 0] (.ref x0 :: st) h Q) ∧
  (∀ (x0 : Nat) (x1 : Nat) (x2 : Int32) (st : List Value) (h : AH) (Q : Option Value → AH → Prop), WP 55 7 [.ref x0, .ref x1, .int x2, .retAddr 0, .retAddr 0, .retAddr 0, .retAddr 0] (st) h Q ↔ WP 55 8 [.ref x0, .ref x1, .int x2, .retAddr 0, .retAddr 0, .retAddr 0, .retAddr 0] (.ref x1 :: st) h Q) ∧
  (∀ (x0 : Nat) (x1 : Nat) (x2 : Int32) (y0 : Nat) (st : List Value) (h : AH) (Q : Option Value → AH → Prop) (ht : hT h y0 = 4), WP 55 8 [.ref x0, .ref x1, .int x2, .retAddr 0, .retAddr 0, .retAddr 0, .retAddr 0] (.ref y0 :: st) h Q ↔ WP 55 11 [.ref x0, .ref x1, .int x2, .retAddr 0, .retAddr 0, .retAddr 0, .retAddr 0] (.int (hI h y0 2) :: st) h Q) ∧
  (∀ (x0 : Nat) (x1 : Nat) (x2 : Int32) (st : List Value) (h : AH) (Q : Option Value → AH → Prop), WP 55 11 [.ref x0, .ref x1, .int x2, .retAddr 0, .retAddr 0, .retAddr 0, .retAddr 0] (st) h Q ↔ WP 55 12 [.ref x0, .ref x1, .int x2, .retAddr 0, .retAddr 0, .retAddr 0, .retAddr 0] (.int x2 :: st) h Q) ∧
  (∀ (x0 : Nat) (x1 : Nat) (x2 : Int32) (st : List Value) (h : AH) (Q : Option Value → AH → Prop), WP 55 12 [.ref x0, .ref x1, .int x2, .retAddr 0, .retAddr 0, .retAddr 0, .retAddr 0] (st) h Q ↔ WP 55 13 [.ref x0, .ref x1, .int x2, .retAddr 0, .retAddr 0, .retAddr 0, .retAddr 0] (.ref x1 :: st) h Q) ∧
  (∀ (x0 : Nat) (x1 : Nat) (x2 : Int32) (y0 : Nat) (st : List Value) (h : AH) (Q : Option Value → AH → Prop) (ht : hT h y0 = 4), WP 55 13 [.ref x0, .ref x1, .int x2, .retAddr 0, .retAddr 0, .retAddr 0, .retAddr 0] (.ref y0 :: st) h Q ↔ WP 55 16 [.ref x0, .ref x1, .int x2, .retAddr 0, .retAddr 0, .retAddr 0, .retAddr 0] (.int (hI h y0 0) :: st) h Q) ∧
  (∀ (x0 : Nat) (x1 : Nat) (x2 : Int32) (y3 : Nat) (y2 : Int32) (y1 : Int32) (y0 : Int32) (h : AH) (Q : Option Value → AH → Prop) (ht : hT h y3 = 7), WP 55 16 [.ref x0, .ref x1, .int x2, .retAddr 0, .retAddr 0, .retAddr 0, .retAddr 0] ([.int y0, .int y1, .int y2, .ref y3]) h Q ↔ WPM 58 [.ref y3, .int y2, .int y1, .int y0] h (fun r h' => WP 55 19 [.ref x0, .ref x1, .int x2, .retAddr 0, .retAddr 0, .retAddr 0, .retAddr 0] (r.toList ++ []) h' Q)) ∧
  (∀ (x0 : Nat) (x1 : Nat) (x2 : Int32) (y0 : Int32) (st : List Value) (h : AH) (Q : Option Value → AH → Prop), WP 55 19 [.ref x0, .ref x1, .int x2, .retAddr 0, .retAddr 0, .retAddr 0, .retAddr 0] (.int y0 :: st) h Q ↔ WP 55 20 [.ref x0, .ref x1, .int x2, .int y0, .retAddr 0, .retAddr 0, .retAddr 0] (st) h Q) ∧
  (∀ (x0 : Nat) (x1 : Nat) (x2 : Int32) (x3 : Int32) (st : List Value) (h : AH) (Q : Option Value → AH → Prop), WP 55 20 [.ref x0, .ref x1, .int x2, .int x3, .retAddr 0, .retAddr 0, .retAddr 0] (st) h Q ↔ WP 55 21 [.ref x0, .ref x1, .int x2, .int x3, .retAddr 0, .retAddr 0, .retAddr 0] (.int (-1) :: st) h Q) ∧
  (∀ (x0 : Nat) (x1 : Nat) (x2 : Int32) (x3 : Int32) (y0 : Int32) (st : List Value) (h : AH) (Q : Option Value → AH → Prop), WP 55 21 [.ref x0, .ref x1, .int x2, .int x3, .retAddr 0, .retAddr 0, .retAddr 0] (.int y0 :: st) h Q ↔ WP 55 23 [.ref x0, .ref x1, .int x2, .int x3, .int y0, .retAddr 0, .retAddr 0] (st) h Q) ∧
  (∀ (x0 : Nat) (x1 : Nat) (x2 : Int32) (x3 : Int32) (x4 : Int32) (st : List Value) (h : AH) (Q : Option Value → AH → Prop), WP 55 23 [.ref x0, .ref x1, .int x2, .int x3, .int x4, .retAddr 0, .retAddr 0] (st) h Q ↔ WP 55 24 [.ref x0, .ref x1, .int x2, .int x3, .int x4, .retAddr 0, .retAddr 0] (.int (0) :: st) h Q) ∧
  (∀ (x0 : Nat) (x1 : Nat) (x2 : Int32) (x3 : Int32) (x4 : Int32) (y0 : Int32) (st : List Value) (h : AH) (Q : Option Value → AH → Prop), WP 55 24 [.ref x0, .ref x1, .int x2, .int x3, .int x4, .retAddr 0, .retAddr 0] (.int y0 :: st) h Q ↔ WP 55 26 [.ref x0, .ref x1, .int x2, .int x3, .int x4, .int y0, .retAddr 0] (st) h Q) ∧
  (∀ (x0 : Nat) (x1 : Nat) (x2 : Int32) (x3 : Int32) (x4 : Int32) (x5 : Int32) (x6 : Value) (st : List Value) (h : AH) (Q : Option Value → AH → Prop), WP 55 28 [.ref x0, .ref x1, .int x2, .int x3, .int x4, .int x5, x6] (st) h Q ↔ WP 55 29 [.ref x0, .ref x1, .int x2, .int x3, .int x4, .int x5, x6] (.ref x1 :: st) h Q) ∧
  (∀ (x0 : Nat) (x1 : Nat) (x2 : Int32) (x3 : Int32) (x4 : Int32) (x5 : Int32) (x6 : Value) (y0 : Nat) (st : List Value) (h : AH) (Q : Option Value → AH → Prop) (ht : hT h y0 = 4), WP 55 29 [.ref x0, .ref x1, .int x2, .int x3, .int x4, .int x5, x6] (.ref y0 :: st) h Q ↔ WP 55 32 [.ref x0, .ref x1, .int x2, .int x3, .int x4, .int x5, x6] (.int (hI h y0 0) :: st) h Q) ∧
  (∀ (x0 : Nat) (x1 : Nat) (x2 : Int32) (x3 : Int32) (x4 : Int32) (x5 : Int32) (x6 : Value) (y0 : Int32) (y1 : Int32) (st : List Value) (h : AH) (Q : Option Value → AH → Prop), WP 55 32 [.ref x0, .ref x1, .int x2, .int x3, .int x4, .int x5, x6] (.int y0 :: .int y1 :: st) h Q ↔ ((y0 ≤ y1 → WP 55 95 [.ref x0, .ref x1, .int x2, .int x3, .int x4, .int x5, x6] (st) h Q) ∧ (¬ y0 ≤ y1 → WP 55 35 [.ref x0, .ref x1, .int x2, .int x3, .int x4, .int x5, x6] (st) h Q))) ∧
  (∀ (x0 : Nat) (x1 : Nat) (x2 : Int32) (x3 : Int32) (x4 : Int32) (x5 : Int32) (x6 : Value) (st : List Value) (h : AH) (Q : Option Value → AH → Prop), WP 55 35 [.ref x0, .ref x1, .int x2, .int x3, .int x4, .int x5, x6] (st) h Q ↔ WP 55 36 [.ref x0, .ref x1, .int x2, .int x3, .int x4, .int x5, x6] (.ref x1 :: st) h Q) ∧
  (∀ (x0 : Nat) (x1 : Nat) (x2 : Int32) (x3 : Int32) (x4 : Int32) (x5 : Int32) (x6 : Value) (y0 : Nat) (st : List Value) (h : AH) (Q : Option Value → AH → Prop) (ht : hT h y0 = 4), WP 55 36 [.ref x0, .ref x1, .int x2, .int x3, .int x4, .int x5, x6] (.ref y0 :: st) h Q ↔ WP 55 39 [.ref x0, .ref x1, .int x2, .int x3, .int x4, .int x5, x6] (.int (hI h y0 1) :: st) h Q) ∧
  (∀ (x0 : Nat) (x1 : Nat) (x2 : Int32) (x3 : Int32) (x4 : Int32) (x5 : Int32) (x6 : Value) (st : List Value) (h : AH) (Q : Option Value → AH → Prop), WP 55 39 [.ref x0, .ref x1, .int x2, .int x3, .int x4, .int x5, x6] (st) h Q ↔ WP 55 41 [.ref x0, .ref x1, .int x2, .int x3, .int x4, .int x5, x6] (.int x5 :: st) h Q) ∧
  (∀ (x0 : Nat) (x1 : Nat) (x2 : Int32) (x3 : Int32) (x4 : Int32) (x5 : Int32) (x6 : Value) (y1 : Int32) (y0 : Int32) (h : AH) (Q : Option Value → AH → Prop), WP 55 41 [.ref x0, .ref x1, .int x2, .int x3, .int x4, .int x5, x6] ([.int y0, .int y1]) h Q ↔ WPM 140 [.int y1, .int y0] h (fun r h' => WP 55 44 [.ref x0, .ref x1, .int x2, .int x3, .int x4, .int x5, x6] (r.toList ++ []) h' Q)) ∧
  (∀ (x0 : Nat) (x1 : Nat) (x2 : Int32) (x3 : Int32) (x4 : Int32) (x5 : Int32) (x6 : Value) (y0 : Int32) (st : List Value) (h : AH) (Q : Option Value → AH → Prop), WP 55 44 [.ref x0, .ref x1, .int x2, .int x3, .int x4, .int x5, x6] (.int y0 :: st) h Q ↔ ((¬ y0 = 0 → WP 55 89 [.ref x0, .ref x1, .int x2, .int x3, .int x4, .int x5, x6] (st) h Q) ∧ (y0 = 0 → WP 55 47 [.ref x0, .ref x1, .int x2, .int x3, .int x4, .int x5, x6] (st) h Q))) ∧
  (∀ (x0 : Nat) (x1 : Nat) (x2 : Int32) (x3 : Int32) (x4 : Int32) (x5 : Int32) (x6 : Value) (st : List Value) (h : AH) (Q : Option Value → AH → Prop), WP 55 47 [.ref x0, .ref x1, .int x2, .int x3, .int x4, .int x5, x6] (st) h Q ↔ WP 55 48 [.ref x0, .ref x1, .int x2, .int x3, .int x4, .int x5, x6] (.ref x0 :: st) h Q) ∧
  (∀ (x0 : Nat) (x1 : Nat) (x2 : Int32) (x3 : Int32) (x4 : Int32) (x5 : Int32) (x6 : Value) (y0 : Nat) (st : List Value) (h : AH) (Q : Option Value → AH → Prop) (ht : hT h y0 = 7), WP 55 48 [.ref x0, .ref x1, .int x2, .int x3, .int x4, .int x5, x6] (.ref y0 :: st) h Q ↔ WP 55 51 [.ref x0, .ref x1, .int x2, .int x3, .int x4, .int x5, x6] (.ref (hR h y0 1) :: st) h Q) ∧
  (∀ (x0 : Nat) (x1 : Nat) (x2 : Int32) (x3 : Int32) (x4 : Int32) (x5 : Int32) (x6 : Value) (st : List Value) (h : AH) (Q : Option Value → AH → Prop), WP 55 51 [.ref x0, .ref x1, .int x2, .int x3, .int x4, .int x5, x6] (st) h Q ↔ WP 55 52 [.ref x0, .ref x1, .int x2, .int x3, .int x4, .int x5, x6] (.ref x1 :: st) h Q) ∧
  (∀ (x0 : Nat) (x1 : Nat) (x2 : Int32) (x3 : Int32) (x4 : Int32) (x5 : Int32) (x6 : Value) (st : List Value) (h : AH) (Q : Option Value → AH → Prop), WP 55 52 [.ref x0, .ref x1, .int x2, .int x3, .int x4, .int x5, x6] (st) h Q ↔ WP 55 53 [.ref x0, .ref x1, .int x2, .int x3, .int x4, .int x5, x6] (.int x2 :: st) h Q) ∧
  (∀ (x0 : Nat) (x1 : Nat) (x2 : Int32) (x3 : Int32) (x4 : Int32) (x5 : Int32) (x6 : Value) (st : List Value) (h : AH) (Q : Option Value → AH → Prop), WP 55 53 [.ref x0, .ref x1, .int x2, .int x3, .int x4, .int x5, x6] (st) h Q ↔ WP 55 55 [.ref x0, .ref x1, .int x2, .int x3, .int x4, .int x5, x6] (.int x5 :: st) h Q) ∧
  (∀ (x0 : Nat) (x1 : Nat) (x2 : Int32) (x3 : Int32) (x4 : Int32) (x5 : Int32) (x6 : Value) (y3 : Nat) (y2 : Nat) (y1 : Int32) (y0 : Int32) (h : AH) (Q : Option Value → AH → Prop) (ht : hT h y3 = 1), WP 55 55 [.ref x0, .ref x1, .int x2, .int x3, .int x4, .int x5, x6] ([.int y0, .int y1, .ref y2, .ref y3]) h Q ↔ WPM 2 [.ref y3, .ref y2, .int y1, .int y0] h (fun r h' => WP 55 58 [.ref x0, .ref x1, .int x2, .int x3, .int x4, .int x5, x6] (r.toList ++ []) h' Q)) ∧
  (∀ (x0 : Nat) (x1 : Nat) (x2 : Int32) (x3 : Int32) (x4 : Int32) (x5 : Int32) (x6 : Value) (st : List Value) (h : AH) (Q : Option Value → AH → Prop), WP 55 58 [.ref x0, .ref x1, .int x2, .int x3, .int x4, .int x5, x6] (st) h Q ↔ WP 55 59 [.ref x0, .ref x1, .int x2, .int x3, .int x4, .int x5, x6] (.ref x0 :: st) h Q) ∧
  (∀ (x0 : Nat) (x1 : Nat) (x2 : Int32) (x3 : Int32) (x4 : Int32) (x5 : Int32) (x6 : Value) (st : List Value) (h : AH) (Q : Option Value → AH → Prop), WP 55 59 [.ref x0, .ref x1, .int x2, .int x3, .int x4, .int x5, x6] (st) h Q ↔ WP 55 60 [.ref x0, .ref x1, .int x2, .int x3, .int x4, .int x5, x6] (.ref x1 :: st) h Q) ∧
  (∀ (x0 : Nat) (x1 : Nat) (x2 : Int32) (x3 : Int32) (x4 : Int32) (x5 : Int32) (x6 : Value) (y1 : Nat) (y0 : Nat) (h : AH) (Q : Option Value → AH → Prop) (ht : hT h y1 = 7), WP 55 60 [.ref x0, .ref x1, .int x2, .int x3, .int x4, .int x5, x6] ([.ref y0, .ref y1]) h Q ↔ WPM 57 [.ref y1, .ref y0] h (fun r h' => WP 55 63 [.ref x0, .ref x1, .int x2, .int x3, .int x4, .int x5, x6] (r.toList ++ []) h' Q)) ∧
  (∀ (x0 : Nat) (x1 : Nat) (x2 : Int32) (x3 : Int32) (x4 : Int32) (x5 : Int32) (x6 : Value) (st : List Value) (h : AH) (Q : Option Value → AH → Prop), WP 55 63 [.ref x0, .ref x1, .int x2, .int x3, .int x4, .int x5, x6] (st) h Q ↔ WP 55 64 [.ref x0, .ref x1, .int x2, .int x3, .int x4, .int x5, x6] (.ref x0 :: st) h Q) ∧
  (∀ (x0 : Nat) (x1 : Nat) (x2 : Int32) (x3 : Int32) (x4 : Int32) (x5 : Int32) (x6 : Value) (st : List Value) (h : AH) (Q : Option Value → AH → Prop), WP 55 64 [.ref x0, .ref x1, .int x2, .int x3, .int x4, .int x5, x6] (st) h Q ↔ WP 55 65 [.ref x0, .ref x1, .int x2, .int x3, .int x4, .int x5, x6] (.ref x1 :: st) h Q) ∧
  (∀ (x0 : Nat) (x1 : Nat) (x2 : Int32) (x3 : Int32) (x4 : Int32) (x5 : Int32) (x6 : Value) (y0 : Nat) (st : List Value) (h : AH) (Q : Option Value → AH → Prop) (ht : hT h y0 = 4), WP 55 65 [.ref x0, .ref x1, .int x2, .int x3, .int x4, .int x5, x6] (.ref y0 :: st) h Q ↔ WP 55 68 [.ref x0, .ref x1, .int x2, .int x3, .int x4, .int x5, x6] (.int (hI h y0 2) :: st) h Q) ∧
  (∀ (x0 : Nat) (x1 : Nat) (x2 : Int32) (x3 : Int32) (x4 : Int32) (x5 : Int32) (x6 : Value) (st : List Value) (h : AH) (Q : Option Value → AH → Prop), WP 55 68 [.ref x0, .ref x1, .int x2, .int x3, .int x4, .int x5, x6] (st) h Q ↔ WP 55 69 [.ref x0, .ref x1, .int x2, .int x3, .int x4, .int x5, x6] (.int x2 :: st) h Q) ∧
  (∀ (x0 : Nat) (x1 : Nat) (x2 : Int32) (x3 : Int32) (x4 : Int32) (x5 : Int32) (x6 : Value) (st : List Value) (h : AH) (Q : Option Value → AH → Prop), WP 55 69 [.ref x0, .ref x1, .int x2, .int x3, .int x4, .int x5, x6] (st) h Q ↔ WP 55 70 [.ref x0, .ref x1, .int x2, .int x3, .int x4, .int x5, x6] (.int x3 :: st) h Q) ∧
  (∀ (x0 : Nat) (x1 : Nat) (x2 : Int32) (x3 : Int32) (x4 : Int32) (x5 : Int32) (x6 : Value) (st : List Value) (h : AH) (Q : Option Value → AH → Prop), WP 55 70 [.ref x0, .ref x1, .int x2, .int x3, .int x4, .int x5, x6] (st) h Q ↔ WP 55 71 [.ref x0, .ref x1, .int x2, .int x3, .int x4, .int x5, x6] (.int (1) :: st) h Q) ∧
  (∀ (x0 : Nat) (x1 : Nat) (x2 : Int32) (x3 : Int32) (x4 : Int32) (x5 : Int32) (x6 : Value) (y0 : Int32) (y1 : Int32) (st : List Value) (h : AH) (Q : Option Value → AH → Prop), WP 55 71 [.ref x0, .ref x1, .int x2, .int x3, .int x4, .int x5, x6] (.int y0 :: .int y1 :: st) h Q ↔ WP 55 72 [.ref x0, .ref x1, .int x2, .int x3, .int x4, .int x5, x6] (.int (y1 - y0) :: st) h Q) :=
  ⟨fun _ _ _ _ _ _ => WP_s (show ct 55 0 = some (.aload_n 0, 0, []) by decide +kernel) rfl,
  fun _ _ _ _ _ _ => WP_s (show ct 55 1 = some (.aload_n 1, 0, []) by decide +kernel) rfl,
  fun _ _ _ _ _ _ => WP_s (show ct 55 2 = some (.iload_n 2, 0, []) by decide +kernel) rfl,
  fun _ _ _ _ _ _ _ _ ht => WC_1 (show ct 55 3 = some (.invokevirtual 31, 3, [56, 3, 1, 7, 0, 773, 775, 18]) by decide +kernel) (Nat.le_of_ble_eq_true rfl) (Nat.le_of_ble_eq_true rfl) rfl rfl ht,
  fun _ _ _ _ _ _ => WP_s (show ct 55 6 = some (.aload_n 0, 0, []) by decide +kernel) rfl,
  fun _ _ _ _ _ _ => WP_s (show ct 55 7 = some (.aload_n 1, 0, []) by decide +kernel) rfl,
  fun _ _ _ _ _ _ _ ht => WH_gI (show ct 55 8 = some (.getfield 57, 1, [3, 2, 0, 150]) by decide +kernel) (by decide) ht,
  fun _ _ _ _ _ _ => WP_s (show ct 55 11 = some (.iload_n 2, 0, []) by decide +kernel) rfl,
  fun _ _ _ _ _ _ => WP_s (show ct 55 12 = some (.aload_n 1, 0, []) by decide +kernel) rfl,
  fun _ _ _ _ _ _ _ ht => WH_gI (show ct 55 13 = some (.getfield 35, 1, [3, 0, 0, 133]) by decide +kernel) (by decide) ht,
  fun _ _ _ _ _ _ _ _ _ ht => WC_1 (show ct 55 16 = some (.invokevirtual 40, 3, [58, 4, 1, 7, 0, 804, 806, 21]) by decide +kernel) (Nat.le_of_ble_eq_true rfl) (Nat.le_of_ble_eq_true rfl) rfl rfl ht,
  fun _ _ _ _ _ _ _ => WP_s (show ct 55 19 = some (.istore_n 3, 0, []) by decide +kernel) rfl,
  fun _ _ _ _ _ _ _ => WP_s (show ct 55 20 = some (.iconst (-1), 0, []) by decide +kernel) rfl,
  fun _ _ _ _ _ _ _ _ => WP_s (show ct 55 21 = some (.istore 4, 0, []) by decide +kernel) rfl,
  fun _ _ _ _ _ _ _ _ => WP_s (show ct 55 23 = some (.iconst 0, 0, []) by decide +kernel) rfl,
  fun _ _ _ _ _ _ _ _ _ => WP_s (show ct 55 24 = some (.istore 5, 0, []) by decide +kernel) rfl,
  fun _ _ _ _ _ _ _ _ _ _ => WP_s (show ct 55 28 = some (.aload_n 1, 0, []) by decide +kernel) rfl,
  fun _ _ _ _ _ _ _ _ _ _ _ ht => WH_gI (show ct 55 29 = some (.getfield 35, 1, [3, 0, 0, 133]) by decide +kernel) (by decide) ht,
  fun _ _ _ _ _ _ _ _ _ _ _ _ => WI_ge (show ct 55 32 = some (.if_icmp .ge 63, 0, [95]) by decide +kernel) (by decide),
  fun _ _ _ _ _ _ _ _ _ _ => WP_s (show ct 55 35 = some (.aload_n 1, 0, []) by decide +kernel) rfl,
  fun _ _ _ _ _ _ _ _ _ _ _ ht => WH_gI (show ct 55 36 = some (.getfield 60, 1, [3, 1, 0, 142]) by decide +kernel) (by decide) ht,
  fun _ _ _ _ _ _ _ _ _ _ => WP_s (show ct 55 39 = some (.iload 5, 0, []) by decide +kernel) rfl,
  fun _ _ _ _ _ _ _ _ _ _ _ => WC_0 (show ct 55 41 = some (.invokestatic 63, 3, [140, 2, 0, 0, 1, 1104, 693, 0]) by decide +kernel) (Nat.le_of_ble_eq_true rfl) (Nat.le_of_ble_eq_true rfl) rfl rfl,
  fun _ _ _ _ _ _ _ _ _ _ _ => WZ_ne (show ct 55 44 = some (.ifCond .ne 45, 0, [89]) by decide +kernel) (by decide),
  fun _ _ _ _ _ _ _ _ _ _ => WP_s (show ct 55 47 = some (.aload_n 0, 0, []) by decide +kernel) rfl,
  fun _ _ _ _ _ _ _ _ _ _ _ ht => WH_gR (show ct 55 48 = some (.getfield 27, 1, [6, 1, 2, 429]) by decide +kernel) ht,
  fun _ _ _ _ _ _ _ _ _ _ => WP_s (show ct 55 51 = some (.aload_n 1, 0, []) by decide +kernel) rfl,
  fun _ _ _ _ _ _ _ _ _ _ => WP_s (show ct 55 52 = some (.iload_n 2, 0, []) by decide +kernel) rfl,
  fun _ _ _ _ _ _ _ _ _ _ => WP_s (show ct 55 53 = some (.iload 5, 0, []) by decide +kernel) rfl,
  fun _ _ _ _ _ _ _ _ _ _ _ _ _ ht => WC_1 (show ct 55 55 = some (.invokevirtual 66, 3, [2, 4, 1, 1, 0, 777, 778, 779]) by decide +kernel) (Nat.le_of_ble_eq_true rfl) (Nat.le_of_ble_eq_true rfl) rfl rfl ht,
  fun _ _ _ _ _ _ _ _ _ _ => WP_s (show ct 55 58 = some (.aload_n 0, 0, []) by decide +kernel) rfl,
  fun _ _ _ _ _ _ _ _ _ _ => WP_s (show ct 55 59 = some (.aload_n 1, 0, []) by decide +kernel) rfl,
  fun _ _ _ _ _ _ _ _ _ _ _ ht => WC_1 (show ct 55 60 = some (.invokevirtual 72, 3, [57, 2, 1, 7, 0, 799, 801, 20]) by decide +kernel) (Nat.le_of_ble_eq_true rfl) (Nat.le_of_ble_eq_true rfl) rfl rfl ht,
  fun _ _ _ _ _ _ _ _ _ _ => WP_s (show ct 55 63 = some (.aload_n 0, 0, []) by decide +kernel) rfl,
  fun _ _ _ _ _ _ _ _ _ _ => WP_s (show ct 55 64 = some (.aload_n 1, 0, []) by decide +kernel) rfl,
  fun _ _ _ _ _ _ _ _ _ _ _ ht => WH_gI (show ct 55 65 = some (.getfield 57, 1, [3, 2, 0, 150]) by decide +kernel) (by decide) ht,
  fun _ _ _ _ _ _ _ _ _ _ => WP_s (show ct 55 68 = some (.iload_n 2, 0, []) by decide +kernel) rfl,
  fun _ _ _ _ _ _ _ _ _ _ => WP_s (show ct 55 69 = some (.iload_n 3, 0, []) by decide +kernel) rfl,
  fun _ _ _ _ _ _ _ _ _ _ => WP_s (show ct 55 70 = some (.iconst 1, 0, []) by decide +kernel) rfl,
  fun _ _ _ _ _ _ _ _ _ _ _ _ => WP_s (show ct 55 71 = some (.isub, 0, []) by decide +kernel) rfl⟩
set_option maxRecDepth 10000 in
theorem w55_b : (∀ (x0 : Nat) (x1 : Nat) (x2 : Int32) (x3 : Int32) (x4 : Int32) (x5 : Int32) (x6 : Value) (y3 : Nat) (y2 : Int32) (y1 : Int32) (y0 : Int32) (h : AH) (Q : Option Value → AH → Prop) (ht : hT h y3 = 7), WP 55 72 [.ref x0, .ref x1, .int x2, .int x3, .int x4, .int x5, x6] ([.int y0, .int y1, .int y2, .ref y3]) h Q ↔ WPM 58 [.ref y3, .int y2, .int y1, .int y0] h (fun r h' => WP 55 75 [.ref x0, .ref x1, .int x2, .int x3, .int x4, .int x5, x6] (r.toList ++ []) h' Q)) ∧
  (∀ (x0 : Nat) (x1 : Nat) (x2 : Int32) (x3 : Int32) (x4 : Int32) (x5 : Int32) (x6 : Value) (y0 : Int32) (st : List Value) (h : AH) (Q : Option Value → AH → Prop), WP 55 75 [.ref x0, .ref x1, .int x2, .int x3, .int x4, .int x5, x6] (.int y0 :: st) h Q ↔ WP 55 77 [.ref x0, .ref x1, .int x2, .int x3, .int x4, .int x5, .int y0] (st) h Q) ∧
  (∀ (x0 : Nat) (x1 : Nat) (x2 : Int32) (x3 : Int32) (x4 : Int32) (x5 : Int32) (x6 : Int32) (st : List Value) (h : AH) (Q : Option Value → AH → Prop), WP 55 77 [.ref x0, .ref x1, .int x2, .int x3, .int x4, .int x5, .int x6] (st) h Q ↔ WP 55 79 [.ref x0, .ref x1, .int x2, .int x3, .int x4, .int x5, .int x6] (.int x6 :: st) h Q) ∧
  (∀ (x0 : Nat) (x1 : Nat) (x2 : Int32) (x3 : Int32) (x4 : Int32) (x5 : Int32) (x6 : Int32) (y0 : Int32) (st : List Value) (h : AH) (Q : Option Value → AH → Prop), WP 55 79 [.ref x0, .ref x1, .int x2, .int x3, .int x4, .int x5, .int x6] (.int y0 :: st) h Q ↔ ((y0 ≤ 0 → WP 55 89 [.ref x0, .ref x1, .int x2, .int x3, .int x4, .int x5, .int x6] (st) h Q) ∧ (¬ y0 ≤ 0 → WP 55 82 [.ref x0, .ref x1, .int x2, .int x3, .int x4, .int x5, .int x6] (st) h Q))) ∧
  (∀ (x0 : Nat) (x1 : Nat) (x2 : Int32) (x3 : Int32) (x4 : Int32) (x5 : Int32) (x6 : Int32) (st : List Value) (h : AH) (Q : Option Value → AH → Prop), WP 55 82 [.ref x0, .ref x1, .int x2, .int x3, .int x4, .int x5, .int x6] (st) h Q ↔ WP 55 84 [.ref x0, .ref x1, .int x2, .int x3, .int x4, .int x5, .int x6] (.int x6 :: st) h Q) ∧
  (∀ (x0 : Nat) (x1 : Nat) (x2 : Int32) (x3 : Int32) (x4 : Int32) (x5 : Int32) (x6 : Int32) (y0 : Int32) (st : List Value) (h : AH) (Q : Option Value → AH → Prop), WP 55 84 [.ref x0, .ref x1, .int x2, .int x3, .int x4, .int x5, .int x6] (.int y0 :: st) h Q ↔ WP 55 85 [.ref x0, .ref x1, .int x2, .int y0, .int x4, .int x5, .int x6] (st) h Q) ∧
  (∀ (x0 : Nat) (x1 : Nat) (x2 : Int32) (x3 : Int32) (x4 : Int32) (x5 : Int32) (x6 : Int32) (st : List Value) (h : AH) (Q : Option Value → AH → Prop), WP 55 85 [.ref x0, .ref x1, .int x2, .int x3, .int x4, .int x5, .int x6] (st) h Q ↔ WP 55 87 [.ref x0, .ref x1, .int x2, .int x3, .int x4, .int x5, .int x6] (.int x5 :: st) h Q) ∧
  (∀ (x0 : Nat) (x1 : Nat) (x2 : Int32) (x3 : Int32) (x4 : Int32) (x5 : Int32) (x6 : Int32) (y0 : Int32) (st : List Value) (h : AH) (Q : Option Value → AH → Prop), WP 55 87 [.ref x0, .ref x1, .int x2, .int x3, .int x4, .int x5, .int x6] (.int y0 :: st) h Q ↔ WP 55 89 [.ref x0, .ref x1, .int x2, .int x3, .int y0, .int x5, .int x6] (st) h Q) ∧
  (∀ (x0 : Nat) (x1 : Nat) (x2 : Int32) (x3 : Int32) (x4 : Int32) (x5 : Int32) (x6 : Value) (st : List Value) (h : AH) (Q : Option Value → AH → Prop), WP 55 89 [.ref x0, .ref x1, .int x2, .int x3, .int x4, .int x5, x6] (st) h Q ↔ WP 55 92 [.ref x0, .ref x1, .int x2, .int x3, .int x4, .int (x5 + (1)), x6] (st) h Q) ∧
  (∀ (x0 : Nat) (x1 : Nat) (x2 : Int32) (x3 : Int32) (x4 : Int32) (x5 : Int32) (x6 : Value) (st : List Value) (h : AH) (Q : Option Value → AH → Prop), WP 55 92 [.ref x0, .ref x1, .int x2, .int x3, .int x4, .int x5, x6] (st) h Q ↔ WP 55 26 [.ref x0, .ref x1, .int x2, .int x3, .int x4, .int x5, x6] (st) h Q) ∧
  (∀ (x0 : Nat) (x1 : Nat) (x2 : Int32) (x3 : Int32) (x4 : Int32) (x5 : Int32) (x6 : Value) (st : List Value) (h : AH) (Q : Option Value → AH → Prop), WP 55 95 [.ref x0, .ref x1, .int x2, .int x3, .int x4, .int x5, x6] (st) h Q ↔ WP 55 96 [.ref x0, .ref x1, .int x2, .int x3, .int x4, .int x5, x6] (.ref x0 :: st) h Q) ∧
  (∀ (x0 : Nat) (x1 : Nat) (x2 : Int32) (x3 : Int32) (x4 : Int32) (x5 : Int32) (x6 : Value) (y0 : Nat) (h : AH) (Q : Option Value → AH → Prop) (ht : hT h y0 = 7), WP 55 96 [.ref x0, .ref x1, .int x2, .int x3, .int x4, .int x5, x6] ([.ref y0]) h Q ↔ WPM 51 [.ref y0] h (fun r h' => WP 55 99 [.ref x0, .ref x1, .int x2, .int x3, .int x4, .int x5, x6] (r.toList ++ []) h' Q)) ∧
  (∀ (x0 : Nat) (x1 : Nat) (x2 : Int32) (x3 : Int32) (x4 : Int32) (x5 : Int32) (x6 : Value) (st : List Value) (h : AH) (Q : Option Value → AH → Prop), WP 55 99 [.ref x0, .ref x1, .int x2, .int x3, .int x4, .int x5, x6] (st) h Q ↔ WP 55 101 [.ref x0, .ref x1, .int x2, .int x3, .int x4, .int x5, x6] (.int x4 :: st) h Q) ∧
  (∀ (x0 : Nat) (x1 : Nat) (x2 : Int32) (x3 : Int32) (x4 : Int32) (x5 : Int32) (x6 : Value) (y0 : Int32) (h : AH) (Q : Option Value → AH → Prop), WP 55 101 [.ref x0, .ref x1, .int x2, .int x3, .int x4, .int x5, x6] ([.int y0]) h Q ↔ Q (some (.int y0)) h) :=
  ⟨fun _ _ _ _ _ _ _ _ _ _ _ _ _ ht => WC_1 (show ct 55 72 = some (.invokevirtual 40, 3, [58, 4, 1, 7, 0, 804, 806, 21]) by decide +kernel) (Nat.le_of_ble_eq_true rfl) (Nat.le_of_ble_eq_true rfl) rfl rfl ht,
  fun _ _ _ _ _ _ _ _ _ _ _ => WP_s (show ct 55 75 = some (.istore 6, 0, []) by decide +kernel) rfl,
  fun _ _ _ _ _ _ _ _ _ _ => WP_s (show ct 55 77 = some (.iload 6, 0, []) by decide +kernel) rfl,
  fun _ _ _ _ _ _ _ _ _ _ _ => WZ_le (show ct 55 79 = some (.ifCond .le 10, 0, [89]) by decide +kernel) (by decide),
  fun _ _ _ _ _ _ _ _ _ _ => WP_s (show ct 55 82 = some (.iload 6, 0, []) by decide +kernel) rfl,
  fun _ _ _ _ _ _ _ _ _ _ _ => WP_s (show ct 55 84 = some (.istore_n 3, 0, []) by decide +kernel) rfl,
  fun _ _ _ _ _ _ _ _ _ _ => WP_s (show ct 55 85 = some (.iload 5, 0, []) by decide +kernel) rfl,
  fun _ _ _ _ _ _ _ _ _ _ _ => WP_s (show ct 55 87 = some (.istore 4, 0, []) by decide +kernel) rfl,
  fun _ _ _ _ _ _ _ _ _ _ => WP_s (show ct 55 89 = some (.iinc 5 1, 0, []) by decide +kernel) rfl,
  fun _ _ _ _ _ _ _ _ _ _ => WP_s (show ct 55 92 = some (.goto (-66), 0, [26]) by decide +kernel) rfl,
  fun _ _ _ _ _ _ _ _ _ _ => WP_s (show ct 55 95 = some (.aload_n 0, 0, []) by decide +kernel) rfl,
  fun _ _ _ _ _ _ _ _ _ _ ht => WC_1 (show ct 55 96 = some (.invokevirtual 76, 3, [51, 1, 1, 7, 0, 1105, 746, 747]) by decide +kernel) (Nat.le_of_ble_eq_true rfl) (Nat.le_of_ble_eq_true rfl) rfl rfl ht,
  fun _ _ _ _ _ _ _ _ _ _ => WP_s (show ct 55 99 = some (.iload 4, 0, []) by decide +kernel) rfl,
  fun _ _ _ _ _ _ _ _ _ _ => WR_i (show ct 55 101 = some (.ireturn, 2, [0]) by decide +kernel)⟩
/-- all of 55 -/
def w55_n : Nat := 2
/-! 56: FewBowls$Reach.turnTo(LFewBowls$Net;I)V; loop heads [] -/
set_option maxRecDepth 10000 in
theorem w56 : (∀ (x0 : Nat) (x1 : Nat) (x2 : Int32) (st : List Value) (h : AH) (Q : Option Value → AH → Prop), WP 56 0 [.ref x0, .ref x1, .int x2, .retAddr 0] (st) h Q ↔ WP 56 1 [.ref x0, .ref x1, .int x2, .retAddr 0] (.int x2 :: st) h Q) ∧
  (∀ (x0 : Nat) (x1 : Nat) (x2 : Int32) (st : List Value) (h : AH) (Q : Option Value → AH → Prop), WP 56 1 [.ref x0, .ref x1, .int x2, .retAddr 0] (st) h Q ↔ WP 56 2 [.ref x0, .ref x1, .int x2, .retAddr 0] (.int (3) :: st) h Q) ∧
  (∀ (x0 : Nat) (x1 : Nat) (x2 : Int32) (y0 : Int32) (y1 : Int32) (st : List Value) (h : AH) (Q : Option Value → AH → Prop), WP 56 2 [.ref x0, .ref x1, .int x2, .retAddr 0] (.int y0 :: .int y1 :: st) h Q ↔ WP 56 3 [.ref x0, .ref x1, .int x2, .retAddr 0] (.int (y1 &&& y0) :: st) h Q) ∧
  (∀ (x0 : Nat) (x1 : Nat) (x2 : Int32) (y0 : Int32) (st : List Value) (h : AH) (Q : Option Value → AH → Prop), WP 56 3 [.ref x0, .ref x1, .int x2, .retAddr 0] (.int y0 :: st) h Q ↔ WP 56 4 [.ref x0, .ref x1, .int x2, .int y0] (st) h Q) ∧
  (∀ (x0 : Nat) (x1 : Nat) (x2 : Int32) (x3 : Int32) (st : List Value) (h : AH) (Q : Option Value → AH → Prop), WP 56 4 [.ref x0, .ref x1, .int x2, .int x3] (st) h Q ↔ WP 56 5 [.ref x0, .ref x1, .int x2, .int x3] (.ref x0 :: st) h Q) ∧
  (∀ (x0 : Nat) (x1 : Nat) (x2 : Int32) (x3 : Int32) (y0 : Nat) (st : List Value) (h : AH) (Q : Option Value → AH → Prop) (ht : hT h y0 = 7), WP 56 5 [.ref x0, .ref x1, .int x2, .int x3] (.ref y0 :: st) h Q ↔ WP 56 8 [.ref x0, .ref x1, .int x2, .int x3] (.ref (hR h y0 1) :: st) h Q) ∧
  (∀ (x0 : Nat) (x1 : Nat) (x2 : Int32) (x3 : Int32) (st : List Value) (h : AH) (Q : Option Value → AH → Prop), WP 56 8 [.ref x0, .ref x1, .int x2, .int x3] (st) h Q ↔ WP 56 9 [.ref x0, .ref x1, .int x2, .int x3] (.ref x1 :: st) h Q) ∧
  (∀ (x0 : Nat) (x1 : Nat) (x2 : Int32) (x3 : Int32) (st : List Value) (h : AH) (Q : Option Value → AH → Prop), WP 56 9 [.ref x0, .ref x1, .int x2, .int x3] (st) h Q ↔ WP 56 10 [.ref x0, .ref x1, .int x2, .int x3] (.int x3 :: st) h Q) ∧
  (∀ (x0 : Nat) (x1 : Nat) (x2 : Int32) (x3 : Int32) (st : List Value) (h : AH) (Q : Option Value → AH → Prop), WP 56 10 [.ref x0, .ref x1, .int x2, .int x3] (st) h Q ↔ WP 56 11 [.ref x0, .ref x1, .int x2, .int x3] (.int (-1) :: st) h Q) ∧
  (∀ (x0 : Nat) (x1 : Nat) (x2 : Int32) (x3 : Int32) (y3 : Nat) (y2 : Nat) (y1 : Int32) (y0 : Int32) (h : AH) (Q : Option Value → AH → Prop) (ht : hT h y3 = 1), WP 56 11 [.ref x0, .ref x1, .int x2, .int x3] ([.int y0, .int y1, .ref y2, .ref y3]) h Q ↔ WPM 2 [.ref y3, .ref y2, .int y1, .int y0] h (fun r h' => WP 56 14 [.ref x0, .ref x1, .int x2, .int x3] (r.toList ++ []) h' Q)) ∧
  (∀ (x0 : Nat) (x1 : Nat) (x2 : Int32) (x3 : Int32) (st : List Value) (h : AH) (Q : Option Value → AH → Prop), WP 56 14 [.ref x0, .ref x1, .int x2, .int x3] (st) h Q ↔ WP 56 15 [.ref x0, .ref x1, .int x2, .int x3] (.ref x0 :: st) h Q) ∧
  (∀ (x0 : Nat) (x1 : Nat) (x2 : Int32) (x3 : Int32) (y0 : Nat) (st : List Value) (h : AH) (Q : Option Value → AH → Prop) (ht : hT h y0 = 7), WP 56 15 [.ref x0, .ref x1, .int x2, .int x3] (.ref y0 :: st) h Q ↔ WP 56 18 [.ref x0, .ref x1, .int x2, .int x3] (.int (hI h y0 6) :: st) h Q) ∧
  (∀ (x0 : Nat) (x1 : Nat) (x2 : Int32) (x3 : Int32) (st : List Value) (h : AH) (Q : Option Value → AH → Prop), WP 56 18 [.ref x0, .ref x1, .int x2, .int x3] (st) h Q ↔ WP 56 19 [.ref x0, .ref x1, .int x2, .int x3] (.int x3 :: st) h Q) ∧
  (∀ (x0 : Nat) (x1 : Nat) (x2 : Int32) (x3 : Int32) (y0 : Int32) (y1 : Int32) (st : List Value) (h : AH) (Q : Option Value → AH → Prop), WP 56 19 [.ref x0, .ref x1, .int x2, .int x3] (.int y0 :: .int y1 :: st) h Q ↔ ((y1 = y0 → WP 56 32 [.ref x0, .ref x1, .int x2, .int x3] (st) h Q) ∧ (¬ y1 = y0 → WP 56 22 [.ref x0, .ref x1, .int x2, .int x3] (st) h Q))) ∧
  (∀ (x0 : Nat) (x1 : Nat) (x2 : Int32) (x3 : Int32) (st : List Value) (h : AH) (Q : Option Value → AH → Prop), WP 56 22 [.ref x0, .ref x1, .int x2, .int x3] (st) h Q ↔ WP 56 23 [.ref x0, .ref x1, .int x2, .int x3] (.ref x0 :: st) h Q) ∧
  (∀ (x0 : Nat) (x1 : Nat) (x2 : Int32) (x3 : Int32) (st : List Value) (h : AH) (Q : Option Value → AH → Prop), WP 56 23 [.ref x0, .ref x1, .int x2, .int x3] (st) h Q ↔ WP 56 24 [.ref x0, .ref x1, .int x2, .int x3] (.ref x1 :: st) h Q) ∧
  (∀ (x0 : Nat) (x1 : Nat) (x2 : Int32) (x3 : Int32) (y1 : Nat) (y0 : Nat) (h : AH) (Q : Option Value → AH → Prop) (ht : hT h y1 = 7), WP 56 24 [.ref x0, .ref x1, .int x2, .int x3] ([.ref y0, .ref y1]) h Q ↔ WPM 57 [.ref y1, .ref y0] h (fun r h' => WP 56 27 [.ref x0, .ref x1, .int x2, .int x3] (r.toList ++ []) h' Q)) ∧
  (∀ (x0 : Nat) (x1 : Nat) (x2 : Int32) (x3 : Int32) (st : List Value) (h : AH) (Q : Option Value → AH → Prop), WP 56 27 [.ref x0, .ref x1, .int x2, .int x3] (st) h Q ↔ WP 56 28 [.ref x0, .ref x1, .int x2, .int x3] (.ref x0 :: st) h Q) ∧
  (∀ (x0 : Nat) (x1 : Nat) (x2 : Int32) (x3 : Int32) (st : List Value) (h : AH) (Q : Option Value → AH → Prop), WP 56 28 [.ref x0, .ref x1, .int x2, .int x3] (st) h Q ↔ WP 56 29 [.ref x0, .ref x1, .int x2, .int x3] (.int x3 :: st) h Q) ∧
  (∀ (x0 : Nat) (x1 : Nat) (x2 : Int32) (x3 : Int32) (y0 : Int32) (y1 : Nat) (st : List Value) (h : AH) (Q : Option Value → AH → Prop) (ht : hT h y1 = 7), WP 56 29 [.ref x0, .ref x1, .int x2, .int x3] (.int y0 :: .ref y1 :: st) h Q ↔ WP 56 32 [.ref x0, .ref x1, .int x2, .int x3] (st) (sI h y1 6 y0) Q) ∧
  (∀ (x0 : Nat) (x1 : Nat) (x2 : Int32) (x3 : Int32) (h : AH) (Q : Option Value → AH → Prop), WP 56 32 [.ref x0, .ref x1, .int x2, .int x3] ([]) h Q ↔ Q none h) :=
  ⟨fun _ _ _ _ _ _ => WP_s (show ct 56 0 = some (.iload_n 2, 0, []) by decide +kernel) rfl,
  fun _ _ _ _ _ _ => WP_s (show ct 56 1 = some (.iconst 3, 0, []) by decide +kernel) rfl,
  fun _ _ _ _ _ _ _ _ => WP_s (show ct 56 2 = some (.iand, 0, []) by decide +kernel) rfl,
  fun _ _ _ _ _ _ _ => WP_s (show ct 56 3 = some (.istore_n 3, 0, []) by decide +kernel) rfl,
  fun _ _ _ _ _ _ _ => WP_s (show ct 56 4 = some (.aload_n 0, 0, []) by decide +kernel) rfl,
  fun _ _ _ _ _ _ _ _ ht => WH_gR (show ct 56 5 = some (.getfield 27, 1, [6, 1, 2, 429]) by decide +kernel) ht,
  fun _ _ _ _ _ _ _ => WP_s (show ct 56 8 = some (.aload_n 1, 0, []) by decide +kernel) rfl,
  fun _ _ _ _ _ _ _ => WP_s (show ct 56 9 = some (.iload_n 3, 0, []) by decide +kernel) rfl,
  fun _ _ _ _ _ _ _ => WP_s (show ct 56 10 = some (.iconst (-1), 0, []) by decide +kernel) rfl,
  fun _ _ _ _ _ _ _ _ _ _ ht => WC_1 (show ct 56 11 = some (.invokevirtual 66, 3, [2, 4, 1, 1, 0, 777, 778, 779]) by decide +kernel) (Nat.le_of_ble_eq_true rfl) (Nat.le_of_ble_eq_true rfl) rfl rfl ht,
  fun _ _ _ _ _ _ _ => WP_s (show ct 56 14 = some (.aload_n 0, 0, []) by decide +kernel) rfl,
  fun _ _ _ _ _ _ _ _ ht => WH_gI (show ct 56 15 = some (.getfield 19, 1, [6, 6, 0, 434]) by decide +kernel) (by decide) ht,
  fun _ _ _ _ _ _ _ => WP_s (show ct 56 18 = some (.iload_n 3, 0, []) by decide +kernel) rfl,
  fun _ _ _ _ _ _ _ _ _ => WI_eq (show ct 56 19 = some (.if_icmp .eq 13, 0, [32]) by decide +kernel) (by decide),
  fun _ _ _ _ _ _ _ => WP_s (show ct 56 22 = some (.aload_n 0, 0, []) by decide +kernel) rfl,
  fun _ _ _ _ _ _ _ => WP_s (show ct 56 23 = some (.aload_n 1, 0, []) by decide +kernel) rfl,
  fun _ _ _ _ _ _ _ _ ht => WC_1 (show ct 56 24 = some (.invokevirtual 72, 3, [57, 2, 1, 7, 0, 799, 801, 20]) by decide +kernel) (Nat.le_of_ble_eq_true rfl) (Nat.le_of_ble_eq_true rfl) rfl rfl ht,
  fun _ _ _ _ _ _ _ => WP_s (show ct 56 27 = some (.aload_n 0, 0, []) by decide +kernel) rfl,
  fun _ _ _ _ _ _ _ => WP_s (show ct 56 28 = some (.iload_n 3, 0, []) by decide +kernel) rfl,
  fun _ _ _ _ _ _ _ _ _ ht => WH_pI (show ct 56 29 = some (.putfield 19, 1, [6, 6, 0, 0, 434]) by decide +kernel) ht,
  fun _ _ _ _ _ _ => WR_v (show ct 56 32 = some (.return_, 2, [0]) by decide +kernel)⟩
/-! 57: FewBowls$Reach.open(LFewBowls$Net;)V; loop heads [32] -/
theorem w57_32 : ∀ (x0 : Nat) (x1 : Nat) (x2 : Int32) (st : List Value) (h : AH) (Q : Option Value → AH → Prop), WP 57 32 [.ref x0, .ref x1, .int x2] (st) h Q ↔ WP 57 33 [.ref x0, .ref x1, .int x2] (.int x2 :: st) h Q := fun _ _ _ _ _ _ => WP_s (show ct 57 32 = some (.iload_n 2, 0, []) by decide +kernel) rfl
set_option maxRecDepth 10000 in
theorem w57 : (∀ (x0 : Nat) (x1 : Nat) (st : List Value) (h : AH) (Q : Option Value → AH → Prop), WP 57 0 [.ref x0, .ref x1, .retAddr 0] (st) h Q ↔ WP 57 1 [.ref x0, .ref x1, .retAddr 0] (.ref x0 :: st) h Q) ∧
  (∀ (x0 : Nat) (x1 : Nat) (st : List Value) (h : AH) (Q : Option Value → AH → Prop), WP 57 1 [.ref x0, .ref x1, .retAddr 0] (st) h Q ↔ WP 57 2 [.ref x0, .ref x1, .retAddr 0] (.ref x1 :: st) h Q) ∧
  (∀ (x0 : Nat) (x1 : Nat) (y1 : Nat) (y0 : Nat) (h : AH) (Q : Option Value → AH → Prop) (ht : hT h y0 = 4), WP 57 2 [.ref x0, .ref x1, .retAddr 0] ([.ref y0, .ref y1]) h Q ↔ WPM 25 [.ref y0] h (fun r h' => WP 57 5 [.ref x0, .ref x1, .retAddr 0] (r.toList ++ [.ref y1]) h' Q)) ∧
  (∀ (x0 : Nat) (x1 : Nat) (y0 : Int32) (y1 : Nat) (st : List Value) (h : AH) (Q : Option Value → AH → Prop) (ht : hT h y1 = 7), WP 57 5 [.ref x0, .ref x1, .retAddr 0] (.int y0 :: .ref y1 :: st) h Q ↔ WP 57 8 [.ref x0, .ref x1, .retAddr 0] (st) (sI h y1 5 y0) Q) ∧
  (∀ (x0 : Nat) (x1 : Nat) (st : List Value) (h : AH) (Q : Option Value → AH → Prop), WP 57 8 [.ref x0, .ref x1, .retAddr 0] (st) h Q ↔ WP 57 9 [.ref x0, .ref x1, .retAddr 0] (.ref x0 :: st) h Q) ∧
  (∀ (x0 : Nat) (x1 : Nat) (y0 : Nat) (st : List Value) (h : AH) (Q : Option Value → AH → Prop) (ht : hT h y0 = 7), WP 57 9 [.ref x0, .ref x1, .retAddr 0] (.ref y0 :: st) h Q ↔ WP 57 12 [.ref x0, .ref x1, .retAddr 0] (.ref (hR h y0 2) :: st) h Q) ∧
  (∀ (x0 : Nat) (x1 : Nat) (y0 : Nat) (st : List Value) (h : AH) (Q : Option Value → AH → Prop) (ht : hT h y0 = 100 ∨ hT h y0 = 101 ∨ hT h y0 = 102 ∨ hT h y0 = 103 ∨ hT h y0 = 110), WP 57 12 [.ref x0, .ref x1, .retAddr 0] (.ref y0 :: st) h Q ↔ WP 57 13 [.ref x0, .ref x1, .retAddr 0] (.int (nI (hL h y0)) :: st) h Q) ∧
  (∀ (x0 : Nat) (x1 : Nat) (st : List Value) (h : AH) (Q : Option Value → AH → Prop), WP 57 13 [.ref x0, .ref x1, .retAddr 0] (st) h Q ↔ WP 57 14 [.ref x0, .ref x1, .retAddr 0] (.ref x0 :: st) h Q) ∧
  (∀ (x0 : Nat) (x1 : Nat) (y0 : Nat) (st : List Value) (h : AH) (Q : Option Value → AH → Prop) (ht : hT h y0 = 7), WP 57 14 [.ref x0, .ref x1, .retAddr 0] (.ref y0 :: st) h Q ↔ WP 57 17 [.ref x0, .ref x1, .retAddr 0] (.int (hI h y0 5) :: st) h Q) ∧
  (∀ (x0 : Nat) (x1 : Nat) (y0 : Int32) (y1 : Int32) (st : List Value) (h : AH) (Q : Option Value → AH → Prop), WP 57 17 [.ref x0, .ref x1, .retAddr 0] (.int y0 :: .int y1 :: st) h Q ↔ ((y0 ≤ y1 → WP 57 30 [.ref x0, .ref x1, .retAddr 0] (st) h Q) ∧ (¬ y0 ≤ y1 → WP 57 20 [.ref x0, .ref x1, .retAddr 0] (st) h Q))) ∧
  (∀ (x0 : Nat) (x1 : Nat) (st : List Value) (h : AH) (Q : Option Value → AH → Prop), WP 57 20 [.ref x0, .ref x1, .retAddr 0] (st) h Q ↔ WP 57 21 [.ref x0, .ref x1, .retAddr 0] (.ref x0 :: st) h Q) ∧
  (∀ (x0 : Nat) (x1 : Nat) (st : List Value) (h : AH) (Q : Option Value → AH → Prop), WP 57 21 [.ref x0, .ref x1, .retAddr 0] (st) h Q ↔ WP 57 22 [.ref x0, .ref x1, .retAddr 0] (.ref x0 :: st) h Q) ∧
  (∀ (x0 : Nat) (x1 : Nat) (y0 : Nat) (st : List Value) (h : AH) (Q : Option Value → AH → Prop) (ht : hT h y0 = 7), WP 57 22 [.ref x0, .ref x1, .retAddr 0] (.ref y0 :: st) h Q ↔ WP 57 25 [.ref x0, .ref x1, .retAddr 0] (.int (hI h y0 5) :: st) h Q) ∧
  (∀ (x0 : Nat) (x1 : Nat) (y0 : Int32) (st : List Value) (h : AH) (Q : Option Value → AH → Prop) (h0 : 0 ≤ y0) (h1 : y0.toNatClampNeg ≤ 1048576), WP 57 25 [.ref x0, .ref x1, .retAddr 0] (.int y0 :: st) h Q ↔ WP 57 27 [.ref x0, .ref x1, .retAddr 0] (.ref (hN h) :: st) (nw h 101 y0.toNatClampNeg y0.toNatClampNeg) Q) ∧
  (∀ (x0 : Nat) (x1 : Nat) (y0 : Nat) (y1 : Nat) (st : List Value) (h : AH) (Q : Option Value → AH → Prop) (ht : hT h y1 = 7), WP 57 27 [.ref x0, .ref x1, .retAddr 0] (.ref y0 :: .ref y1 :: st) h Q ↔ WP 57 30 [.ref x0, .ref x1, .retAddr 0] (st) (sR h y1 2 y0) Q) ∧
  (∀ (x0 : Nat) (x1 : Nat) (st : List Value) (h : AH) (Q : Option Value → AH → Prop), WP 57 30 [.ref x0, .ref x1, .retAddr 0] (st) h Q ↔ WP 57 31 [.ref x0, .ref x1, .retAddr 0] (.int (1) :: st) h Q) ∧
  (∀ (x0 : Nat) (x1 : Nat) (y0 : Int32) (st : List Value) (h : AH) (Q : Option Value → AH → Prop), WP 57 31 [.ref x0, .ref x1, .retAddr 0] (.int y0 :: st) h Q ↔ WP 57 32 [.ref x0, .ref x1, .int y0] (st) h Q) ∧
  (∀ (x0 : Nat) (x1 : Nat) (x2 : Int32) (st : List Value) (h : AH) (Q : Option Value → AH → Prop), WP 57 33 [.ref x0, .ref x1, .int x2] (st) h Q ↔ WP 57 34 [.ref x0, .ref x1, .int x2] (.ref x0 :: st) h Q) ∧
  (∀ (x0 : Nat) (x1 : Nat) (x2 : Int32) (y0 : Nat) (st : List Value) (h : AH) (Q : Option Value → AH → Prop) (ht : hT h y0 = 7), WP 57 34 [.ref x0, .ref x1, .int x2] (.ref y0 :: st) h Q ↔ WP 57 37 [.ref x0, .ref x1, .int x2] (.int (hI h y0 5) :: st) h Q) ∧
  (∀ (x0 : Nat) (x1 : Nat) (x2 : Int32) (y0 : Int32) (y1 : Int32) (st : List Value) (h : AH) (Q : Option Value → AH → Prop), WP 57 37 [.ref x0, .ref x1, .int x2] (.int y0 :: .int y1 :: st) h Q ↔ ((y0 ≤ y1 → WP 57 54 [.ref x0, .ref x1, .int x2] (st) h Q) ∧ (¬ y0 ≤ y1 → WP 57 40 [.ref x0, .ref x1, .int x2] (st) h Q))) ∧
  (∀ (x0 : Nat) (x1 : Nat) (x2 : Int32) (st : List Value) (h : AH) (Q : Option Value → AH → Prop), WP 57 40 [.ref x0, .ref x1, .int x2] (st) h Q ↔ WP 57 41 [.ref x0, .ref x1, .int x2] (.ref x0 :: st) h Q) ∧
  (∀ (x0 : Nat) (x1 : Nat) (x2 : Int32) (y0 : Nat) (st : List Value) (h : AH) (Q : Option Value → AH → Prop) (ht : hT h y0 = 7), WP 57 41 [.ref x0, .ref x1, .int x2] (.ref y0 :: st) h Q ↔ WP 57 44 [.ref x0, .ref x1, .int x2] (.ref (hR h y0 2) :: st) h Q) ∧
  (∀ (x0 : Nat) (x1 : Nat) (x2 : Int32) (st : List Value) (h : AH) (Q : Option Value → AH → Prop), WP 57 44 [.ref x0, .ref x1, .int x2] (st) h Q ↔ WP 57 45 [.ref x0, .ref x1, .int x2] (.int x2 :: st) h Q) ∧
  (∀ (x0 : Nat) (x1 : Nat) (x2 : Int32) (st : List Value) (h : AH) (Q : Option Value → AH → Prop), WP 57 45 [.ref x0, .ref x1, .int x2] (st) h Q ↔ WP 57 47 [.ref x0, .ref x1, .int x2] (.int (99) :: st) h Q) ∧
  (∀ (x0 : Nat) (x1 : Nat) (x2 : Int32) (y0 : Int32) (y1 : Int32) (y2 : Nat) (st : List Value) (h : AH) (Q : Option Value → AH → Prop) (ht : hT h y2 = 101) (hi : inb y1 (hL h y2) = true), WP 57 47 [.ref x0, .ref x1, .int x2] (.int y0 :: .int y1 :: .ref y2 :: st) h Q ↔ WP 57 48 [.ref x0, .ref x1, .int x2] (st) (sI h y2 y1.toNatClampNeg y0.toInt8.toInt32) Q) ∧
  (∀ (x0 : Nat) (x1 : Nat) (x2 : Int32) (y0 : Int32) (y1 : Int32) (y2 : Nat) (st : List Value) (h : AH) (Q : Option Value → AH → Prop) (ht : hT h y2 = 102) (hi : inb y1 (hL h y2) = true), WP 57 47 [.ref x0, .ref x1, .int x2] (.int y0 :: .int y1 :: .ref y2 :: st) h Q ↔ WP 57 48 [.ref x0, .ref x1, .int x2] (st) (sI h y2 y1.toNatClampNeg (y0 &&& 1)) Q) ∧
  (∀ (x0 : Nat) (x1 : Nat) (x2 : Int32) (st : List Value) (h : AH) (Q : Option Value → AH → Prop), WP 57 48 [.ref x0, .ref x1, .int x2] (st) h Q ↔ WP 57 51 [.ref x0, .ref x1, .int (x2 + (1))] (st) h Q) ∧
  (∀ (x0 : Nat) (x1 : Nat) (x2 : Int32) (st : List Value) (h : AH) (Q : Option Value → AH → Prop), WP 57 51 [.ref x0, .ref x1, .int x2] (st) h Q ↔ WP 57 32 [.ref x0, .ref x1, .int x2] (st) h Q) ∧
  (∀ (x0 : Nat) (x1 : Nat) (x2 : Int32) (st : List Value) (h : AH) (Q : Option Value → AH → Prop), WP 57 54 [.ref x0, .ref x1, .int x2] (st) h Q ↔ WP 57 55 [.ref x0, .ref x1, .int x2] (.ref x0 :: st) h Q) ∧
  (∀ (x0 : Nat) (x1 : Nat) (x2 : Int32) (y0 : Nat) (st : List Value) (h : AH) (Q : Option Value → AH → Prop) (ht : hT h y0 = 7), WP 57 55 [.ref x0, .ref x1, .int x2] (.ref y0 :: st) h Q ↔ WP 57 58 [.ref x0, .ref x1, .int x2] (.ref (hR h y0 2) :: st) h Q) ∧
  (∀ (x0 : Nat) (x1 : Nat) (x2 : Int32) (st : List Value) (h : AH) (Q : Option Value → AH → Prop), WP 57 58 [.ref x0, .ref x1, .int x2] (st) h Q ↔ WP 57 59 [.ref x0, .ref x1, .int x2] (.int (0) :: st) h Q) ∧
  (∀ (x0 : Nat) (x1 : Nat) (x2 : Int32) (st : List Value) (h : AH) (Q : Option Value → AH → Prop), WP 57 59 [.ref x0, .ref x1, .int x2] (st) h Q ↔ WP 57 60 [.ref x0, .ref x1, .int x2] (.int (0) :: st) h Q) ∧
  (∀ (x0 : Nat) (x1 : Nat) (x2 : Int32) (y0 : Int32) (y1 : Int32) (y2 : Nat) (st : List Value) (h : AH) (Q : Option Value → AH → Prop) (ht : hT h y2 = 101) (hi : inb y1 (hL h y2) = true), WP 57 60 [.ref x0, .ref x1, .int x2] (.int y0 :: .int y1 :: .ref y2 :: st) h Q ↔ WP 57 61 [.ref x0, .ref x1, .int x2] (st) (sI h y2 y1.toNatClampNeg y0.toInt8.toInt32) Q) ∧
  (∀ (x0 : Nat) (x1 : Nat) (x2 : Int32) (y0 : Int32) (y1 : Int32) (y2 : Nat) (st : List Value) (h : AH) (Q : Option Value → AH → Prop) (ht : hT h y2 = 102) (hi : inb y1 (hL h y2) = true), WP 57 60 [.ref x0, .ref x1, .int x2] (.int y0 :: .int y1 :: .ref y2 :: st) h Q ↔ WP 57 61 [.ref x0, .ref x1, .int x2] (st) (sI h y2 y1.toNatClampNeg (y0 &&& 1)) Q) ∧
  (∀ (x0 : Nat) (x1 : Nat) (x2 : Int32) (st : List Value) (h : AH) (Q : Option Value → AH → Prop), WP 57 61 [.ref x0, .ref x1, .int x2] (st) h Q ↔ WP 57 62 [.ref x0, .ref x1, .int x2] (.ref x0 :: st) h Q) ∧
  (∀ (x0 : Nat) (x1 : Nat) (x2 : Int32) (st : List Value) (h : AH) (Q : Option Value → AH → Prop), WP 57 62 [.ref x0, .ref x1, .int x2] (st) h Q ↔ WP 57 63 [.ref x0, .ref x1, .int x2] (.int (0) :: st) h Q) ∧
  (∀ (x0 : Nat) (x1 : Nat) (x2 : Int32) (y0 : Int32) (y1 : Nat) (st : List Value) (h : AH) (Q : Option Value → AH → Prop) (ht : hT h y1 = 7), WP 57 63 [.ref x0, .ref x1, .int x2] (.int y0 :: .ref y1 :: st) h Q ↔ WP 57 66 [.ref x0, .ref x1, .int x2] (st) (sI h y1 7 y0) Q) ∧
  (∀ (x0 : Nat) (x1 : Nat) (x2 : Int32) (h : AH) (Q : Option Value → AH → Prop), WP 57 66 [.ref x0, .ref x1, .int x2] ([]) h Q ↔ Q none h) :=
  ⟨fun _ _ _ _ _ => WP_s (show ct 57 0 = some (.aload_n 0, 0, []) by decide +kernel) rfl,
  fun _ _ _ _ _ => WP_s (show ct 57 1 = some (.aload_n 1, 0, []) by decide +kernel) rfl,
  fun _ _ _ _ _ _ ht => WC_1 (show ct 57 2 = some (.invokevirtual 79, 3, [25, 1, 1, 4, 0, 803, 782, 783]) by decide +kernel) (Nat.le_of_ble_eq_true rfl) (Nat.le_of_ble_eq_true rfl) rfl rfl ht,
  fun _ _ _ _ _ _ _ ht => WH_pI (show ct 57 5 = some (.putfield 54, 1, [6, 5, 0, 0, 433]) by decide +kernel) ht,
  fun _ _ _ _ _ => WP_s (show ct 57 8 = some (.aload_n 0, 0, []) by decide +kernel) rfl,
  fun _ _ _ _ _ _ ht => WH_gR (show ct 57 9 = some (.getfield 9, 1, [6, 2, 2, 430]) by decide +kernel) ht,
  fun _ _ _ _ _ _ ht => WH_alen (show ct 57 12 = some (.arraylength, 1, []) by decide +kernel) ht,
  fun _ _ _ _ _ => WP_s (show ct 57 13 = some (.aload_n 0, 0, []) by decide +kernel) rfl,
  fun _ _ _ _ _ _ ht => WH_gI (show ct 57 14 = some (.getfield 54, 1, [6, 5, 0, 433]) by decide +kernel) (by decide) ht,
  fun _ _ _ _ _ _ _ => WI_ge (show ct 57 17 = some (.if_icmp .ge 13, 0, [30]) by decide +kernel) (by decide),
  fun _ _ _ _ _ => WP_s (show ct 57 20 = some (.aload_n 0, 0, []) by decide +kernel) rfl,
  fun _ _ _ _ _ => WP_s (show ct 57 21 = some (.aload_n 0, 0, []) by decide +kernel) rfl,
  fun _ _ _ _ _ _ ht => WH_gI (show ct 57 22 = some (.getfield 54, 1, [6, 5, 0, 433]) by decide +kernel) (by decide) ht,
  fun _ _ _ _ _ _ h0 h1 => WH_newa (show ct 57 25 = some (.newarray .byte, 1, [101, 208]) by decide +kernel) (by decide) h0 h1,
  fun _ _ _ _ _ _ _ ht => WH_pR (show ct 57 27 = some (.putfield 9, 1, [6, 2, 2, 0, 430]) by decide +kernel) ht,
  fun _ _ _ _ _ => WP_s (show ct 57 30 = some (.iconst 1, 0, []) by decide +kernel) rfl,
  fun _ _ _ _ _ _ => WP_s (show ct 57 31 = some (.istore_n 2, 0, []) by decide +kernel) rfl,
  fun _ _ _ _ _ _ => WP_s (show ct 57 33 = some (.aload_n 0, 0, []) by decide +kernel) rfl,
  fun _ _ _ _ _ _ _ ht => WH_gI (show ct 57 34 = some (.getfield 54, 1, [6, 5, 0, 433]) by decide +kernel) (by decide) ht,
  fun _ _ _ _ _ _ _ _ => WI_ge (show ct 57 37 = some (.if_icmp .ge 17, 0, [54]) by decide +kernel) (by decide),
  fun _ _ _ _ _ _ => WP_s (show ct 57 40 = some (.aload_n 0, 0, []) by decide +kernel) rfl,
  fun _ _ _ _ _ _ _ ht => WH_gR (show ct 57 41 = some (.getfield 9, 1, [6, 2, 2, 430]) by decide +kernel) ht,
  fun _ _ _ _ _ _ => WP_s (show ct 57 44 = some (.iload_n 2, 0, []) by decide +kernel) rfl,
  fun _ _ _ _ _ _ => WP_s (show ct 57 45 = some (.bipush 99, 0, []) by decide +kernel) rfl,
  fun _ _ _ _ _ _ _ _ _ ht hi => WH_bast (show ct 57 47 = some (.bastore, 1, []) by decide +kernel) ht hi,
  fun _ _ _ _ _ _ _ _ _ ht hi => WH_zast (show ct 57 47 = some (.bastore, 1, []) by decide +kernel) ht hi,
  fun _ _ _ _ _ _ => WP_s (show ct 57 48 = some (.iinc 2 1, 0, []) by decide +kernel) rfl,
  fun _ _ _ _ _ _ => WP_s (show ct 57 51 = some (.goto (-19), 0, [32]) by decide +kernel) rfl,
  fun _ _ _ _ _ _ => WP_s (show ct 57 54 = some (.aload_n 0, 0, []) by decide +kernel) rfl,
  fun _ _ _ _ _ _ _ ht => WH_gR (show ct 57 55 = some (.getfield 9, 1, [6, 2, 2, 430]) by decide +kernel) ht,
  fun _ _ _ _ _ _ => WP_s (show ct 57 58 = some (.iconst 0, 0, []) by decide +kernel) rfl,
  fun _ _ _ _ _ _ => WP_s (show ct 57 59 = some (.iconst 0, 0, []) by decide +kernel) rfl,
  fun _ _ _ _ _ _ _ _ _ ht hi => WH_bast (show ct 57 60 = some (.bastore, 1, []) by decide +kernel) ht hi,
  fun _ _ _ _ _ _ _ _ _ ht hi => WH_zast (show ct 57 60 = some (.bastore, 1, []) by decide +kernel) ht hi,
  fun _ _ _ _ _ _ => WP_s (show ct 57 61 = some (.aload_n 0, 0, []) by decide +kernel) rfl,
  fun _ _ _ _ _ _ => WP_s (show ct 57 62 = some (.iconst 0, 0, []) by decide +kernel) rfl,
  fun _ _ _ _ _ _ _ _ ht => WH_pI (show ct 57 63 = some (.putfield 82, 1, [6, 7, 0, 0, 435]) by decide +kernel) ht,
  fun _ _ _ _ _ => WR_v (show ct 57 66 = some (.return_, 2, [0]) by decide +kernel)⟩
/-! 58: FewBowls$Reach.firstEnd(III)I; loop heads [6, 21] -/
theorem w58_6 : ∀ (x0 : Nat) (x1 : Int32) (x2 : Int32) (x3 : Int32) (x4 : Int32) (x5 : Value) (st : List Value) (h : AH) (Q : Option Value → AH → Prop), WP 58 6 [.ref x0, .int x1, .int x2, .int x3, .int x4, x5] (st) h Q ↔ WP 58 8 [.ref x0, .int x1, .int x2, .int x3, .int x4, x5] (.int x4 :: st) h Q := fun _ _ _ _ _ _ _ _ _ => WP_s (show ct 58 6 = some (.iload 4, 0, []) by decide +kernel) rfl
theorem w58_21 : ∀ (x0 : Nat) (x1 : Int32) (x2 : Int32) (x3 : Int32) (x4 : Int32) (x5 : Int32) (st : List Value) (h : AH) (Q : Option Value → AH → Prop), WP 58 21 [.ref x0, .int x1, .int x2, .int x3, .int x4, .int x5] (st) h Q ↔ WP 58 23 [.ref x0, .int x1, .int x2, .int x3, .int x4, .int x5] (.int x5 :: st) h Q := fun _ _ _ _ _ _ _ _ _ => WP_s (show ct 58 21 = some (.iload 5, 0, []) by decide +kernel) rfl
set_option maxRecDepth 10000 in
theorem w58 : (∀ (x0 : Nat) (x1 : Int32) (x2 : Int32) (x3 : Int32) (st : List Value) (h : AH) (Q : Option Value → AH → Prop), WP 58 0 [.ref x0, .int x1, .int x2, .int x3, .retAddr 0, .retAddr 0] (st) h Q ↔ WP 58 1 [.ref x0, .int x1, .int x2, .int x3, .retAddr 0, .retAddr 0] (.int x1 :: st) h Q) ∧
  (∀ (x0 : Nat) (x1 : Int32) (x2 : Int32) (x3 : Int32) (y0 : Int32) (h : AH) (Q : Option Value → AH → Prop), WP 58 1 [.ref x0, .int x1, .int x2, .int x3, .retAddr 0, .retAddr 0] ([.int y0]) h Q ↔ WPM 218 [.int y0] h (fun r h' => WP 58 4 [.ref x0, .int x1, .int x2, .int x3, .retAddr 0, .retAddr 0] (r.toList ++ []) h' Q)) ∧
  (∀ (x0 : Nat) (x1 : Int32) (x2 : Int32) (x3 : Int32) (y0 : Int32) (st : List Value) (h : AH) (Q : Option Value → AH → Prop), WP 58 4 [.ref x0, .int x1, .int x2, .int x3, .retAddr 0, .retAddr 0] (.int y0 :: st) h Q ↔ WP 58 6 [.ref x0, .int x1, .int x2, .int x3, .int y0, .retAddr 0] (st) h Q) ∧
  (∀ (x0 : Nat) (x1 : Int32) (x2 : Int32) (x3 : Int32) (x4 : Int32) (x5 : Value) (st : List Value) (h : AH) (Q : Option Value → AH → Prop), WP 58 8 [.ref x0, .int x1, .int x2, .int x3, .int x4, x5] (st) h Q ↔ WP 58 9 [.ref x0, .int x1, .int x2, .int x3, .int x4, x5] (.int x3 :: st) h Q) ∧
  (∀ (x0 : Nat) (x1 : Int32) (x2 : Int32) (x3 : Int32) (x4 : Int32) (x5 : Value) (y0 : Int32) (y1 : Int32) (st : List Value) (h : AH) (Q : Option Value → AH → Prop), WP 58 9 [.ref x0, .int x1, .int x2, .int x3, .int x4, x5] (.int y0 :: .int y1 :: st) h Q ↔ ((y0 < y1 → WP 58 67 [.ref x0, .int x1, .int x2, .int x3, .int x4, x5] (st) h Q) ∧ (¬ y0 < y1 → WP 58 12 [.ref x0, .int x1, .int x2, .int x3, .int x4, x5] (st) h Q))) ∧
  (∀ (x0 : Nat) (x1 : Int32) (x2 : Int32) (x3 : Int32) (x4 : Int32) (x5 : Value) (st : List Value) (h : AH) (Q : Option Value → AH → Prop), WP 58 12 [.ref x0, .int x1, .int x2, .int x3, .int x4, x5] (st) h Q ↔ WP 58 13 [.ref x0, .int x1, .int x2, .int x3, .int x4, x5] (.ref x0 :: st) h Q) ∧
  (∀ (x0 : Nat) (x1 : Int32) (x2 : Int32) (x3 : Int32) (x4 : Int32) (x5 : Value) (st : List Value) (h : AH) (Q : Option Value → AH → Prop), WP 58 13 [.ref x0, .int x1, .int x2, .int x3, .int x4, x5] (st) h Q ↔ WP 58 15 [.ref x0, .int x1, .int x2, .int x3, .int x4, x5] (.int x4 :: st) h Q) ∧
  (∀ (x0 : Nat) (x1 : Int32) (x2 : Int32) (x3 : Int32) (x4 : Int32) (x5 : Value) (y1 : Nat) (y0 : Int32) (h : AH) (Q : Option Value → AH → Prop) (ht : hT h y1 = 7), WP 58 15 [.ref x0, .int x1, .int x2, .int x3, .int x4, x5] ([.int y0, .ref y1]) h Q ↔ WPM 59 [.ref y1, .int y0] h (fun r h' => WP 58 18 [.ref x0, .int x1, .int x2, .int x3, .int x4, x5] (r.toList ++ []) h' Q)) ∧
  (∀ (x0 : Nat) (x1 : Int32) (x2 : Int32) (x3 : Int32) (x4 : Int32) (x5 : Value) (st : List Value) (h : AH) (Q : Option Value → AH → Prop), WP 58 18 [.ref x0, .int x1, .int x2, .int x3, .int x4, x5] (st) h Q ↔ WP 58 19 [.ref x0, .int x1, .int x2, .int x3, .int x4, x5] (.int x1 :: st) h Q) ∧
  (∀ (x0 : Nat) (x1 : Int32) (x2 : Int32) (x3 : Int32) (x4 : Int32) (x5 : Value) (y0 : Int32) (st : List Value) (h : AH) (Q : Option Value → AH → Prop), WP 58 19 [.ref x0, .int x1, .int x2, .int x3, .int x4, x5] (.int y0 :: st) h Q ↔ WP 58 21 [.ref x0, .int x1, .int x2, .int x3, .int x4, .int y0] (st) h Q) ∧
  (∀ (x0 : Nat) (x1 : Int32) (x2 : Int32) (x3 : Int32) (x4 : Int32) (x5 : Int32) (st : List Value) (h : AH) (Q : Option Value → AH → Prop), WP 58 23 [.ref x0, .int x1, .int x2, .int x3, .int x4, .int x5] (st) h Q ↔ WP 58 24 [.ref x0, .int x1, .int x2, .int x3, .int x4, .int x5] (.ref x0 :: st) h Q) ∧
  (∀ (x0 : Nat) (x1 : Int32) (x2 : Int32) (x3 : Int32) (x4 : Int32) (x5 : Int32) (y0 : Nat) (st : List Value) (h : AH) (Q : Option Value → AH → Prop) (ht : hT h y0 = 7), WP 58 24 [.ref x0, .int x1, .int x2, .int x3, .int x4, .int x5] (.ref y0 :: st) h Q ↔ WP 58 27 [.ref x0, .int x1, .int x2, .int x3, .int x4, .int x5] (.int (hI h y0 5) :: st) h Q) ∧
  (∀ (x0 : Nat) (x1 : Int32) (x2 : Int32) (x3 : Int32) (x4 : Int32) (x5 : Int32) (y0 : Int32) (y1 : Int32) (st : List Value) (h : AH) (Q : Option Value → AH → Prop), WP 58 27 [.ref x0, .int x1, .int x2, .int x3, .int x4, .int x5] (.int y0 :: .int y1 :: st) h Q ↔ ((y0 ≤ y1 → WP 58 61 [.ref x0, .int x1, .int x2, .int x3, .int x4, .int x5] (st) h Q) ∧ (¬ y0 ≤ y1 → WP 58 30 [.ref x0, .int x1, .int x2, .int x3, .int x4, .int x5] (st) h Q))) ∧
  (∀ (x0 : Nat) (x1 : Int32) (x2 : Int32) (x3 : Int32) (x4 : Int32) (x5 : Int32) (st : List Value) (h : AH) (Q : Option Value → AH → Prop), WP 58 30 [.ref x0, .int x1, .int x2, .int x3, .int x4, .int x5] (st) h Q ↔ WP 58 31 [.ref x0, .int x1, .int x2, .int x3, .int x4, .int x5] (.ref x0 :: st) h Q) ∧
  (∀ (x0 : Nat) (x1 : Int32) (x2 : Int32) (x3 : Int32) (x4 : Int32) (x5 : Int32) (y0 : Nat) (st : List Value) (h : AH) (Q : Option Value → AH → Prop) (ht : hT h y0 = 7), WP 58 31 [.ref x0, .int x1, .int x2, .int x3, .int x4, .int x5] (.ref y0 :: st) h Q ↔ WP 58 34 [.ref x0, .int x1, .int x2, .int x3, .int x4, .int x5] (.ref (hR h y0 2) :: st) h Q) ∧
  (∀ (x0 : Nat) (x1 : Int32) (x2 : Int32) (x3 : Int32) (x4 : Int32) (x5 : Int32) (st : List Value) (h : AH) (Q : Option Value → AH → Prop), WP 58 34 [.ref x0, .int x1, .int x2, .int x3, .int x4, .int x5] (st) h Q ↔ WP 58 36 [.ref x0, .int x1, .int x2, .int x3, .int x4, .int x5] (.int x5 :: st) h Q) ∧
  (∀ (x0 : Nat) (x1 : Int32) (x2 : Int32) (x3 : Int32) (x4 : Int32) (x5 : Int32) (y0 : Int32) (y1 : Nat) (st : List Value) (h : AH) (Q : Option Value → AH → Prop) (ht : hT h y1 = 101 ∨ hT h y1 = 102) (hi : inb y0 (hL h y1) = true), WP 58 36 [.ref x0, .int x1, .int x2, .int x3, .int x4, .int x5] (.int y0 :: .ref y1 :: st) h Q ↔ WP 58 37 [.ref x0, .int x1, .int x2, .int x3, .int x4, .int x5] (.int (hI h y1 y0.toNatClampNeg) :: st) h Q) ∧
  (∀ (x0 : Nat) (x1 : Int32) (x2 : Int32) (x3 : Int32) (x4 : Int32) (x5 : Int32) (st : List Value) (h : AH) (Q : Option Value → AH → Prop), WP 58 37 [.ref x0, .int x1, .int x2, .int x3, .int x4, .int x5] (st) h Q ↔ WP 58 39 [.ref x0, .int x1, .int x2, .int x3, .int x4, .int x5] (.int x4 :: st) h Q) ∧
  (∀ (x0 : Nat) (x1 : Int32) (x2 : Int32) (x3 : Int32) (x4 : Int32) (x5 : Int32) (y0 : Int32) (y1 : Int32) (st : List Value) (h : AH) (Q : Option Value → AH → Prop), WP 58 39 [.ref x0, .int x1, .int x2, .int x3, .int x4, .int x5] (.int y0 :: .int y1 :: st) h Q ↔ ((y0 < y1 → WP 58 55 [.ref x0, .int x1, .int x2, .int x3, .int x4, .int x5] (st) h Q) ∧ (¬ y0 < y1 → WP 58 42 [.ref x0, .int x1, .int x2, .int x3, .int x4, .int x5] (st) h Q))) ∧
  (∀ (x0 : Nat) (x1 : Int32) (x2 : Int32) (x3 : Int32) (x4 : Int32) (x5 : Int32) (st : List Value) (h : AH) (Q : Option Value → AH → Prop), WP 58 42 [.ref x0, .int x1, .int x2, .int x3, .int x4, .int x5] (st) h Q ↔ WP 58 44 [.ref x0, .int x1, .int x2, .int x3, .int x4, .int x5] (.int x5 :: st) h Q) ∧
  (∀ (x0 : Nat) (x1 : Int32) (x2 : Int32) (x3 : Int32) (x4 : Int32) (x5 : Int32) (st : List Value) (h : AH) (Q : Option Value → AH → Prop), WP 58 44 [.ref x0, .int x1, .int x2, .int x3, .int x4, .int x5] (st) h Q ↔ WP 58 45 [.ref x0, .int x1, .int x2, .int x3, .int x4, .int x5] (.int x1 :: st) h Q) ∧
  (∀ (x0 : Nat) (x1 : Int32) (x2 : Int32) (x3 : Int32) (x4 : Int32) (x5 : Int32) (st : List Value) (h : AH) (Q : Option Value → AH → Prop), WP 58 45 [.ref x0, .int x1, .int x2, .int x3, .int x4, .int x5] (st) h Q ↔ WP 58 46 [.ref x0, .int x1, .int x2, .int x3, .int x4, .int x5] (.int x2 :: st) h Q) ∧
  (∀ (x0 : Nat) (x1 : Int32) (x2 : Int32) (x3 : Int32) (x4 : Int32) (x5 : Int32) (y2 : Int32) (y1 : Int32) (y0 : Int32) (h : AH) (Q : Option Value → AH → Prop), WP 58 46 [.ref x0, .int x1, .int x2, .int x3, .int x4, .int x5] ([.int y0, .int y1, .int y2]) h Q ↔ WPM 142 [.int y2, .int y1, .int y0] h (fun r h' => WP 58 49 [.ref x0, .int x1, .int x2, .int x3, .int x4, .int x5] (r.toList ++ []) h' Q)) ∧
  (∀ (x0 : Nat) (x1 : Int32) (x2 : Int32) (x3 : Int32) (x4 : Int32) (x5 : Int32) (y0 : Int32) (st : List Value) (h : AH) (Q : Option Value → AH → Prop), WP 58 49 [.ref x0, .int x1, .int x2, .int x3, .int x4, .int x5] (.int y0 :: st) h Q ↔ ((y0 = 0 → WP 58 55 [.ref x0, .int x1, .int x2, .int x3, .int x4, .int x5] (st) h Q) ∧ (¬ y0 = 0 → WP 58 52 [.ref x0, .int x1, .int x2, .int x3, .int x4, .int x5] (st) h Q))) ∧
  (∀ (x0 : Nat) (x1 : Int32) (x2 : Int32) (x3 : Int32) (x4 : Int32) (x5 : Int32) (st : List Value) (h : AH) (Q : Option Value → AH → Prop), WP 58 52 [.ref x0, .int x1, .int x2, .int x3, .int x4, .int x5] (st) h Q ↔ WP 58 54 [.ref x0, .int x1, .int x2, .int x3, .int x4, .int x5] (.int x4 :: st) h Q) ∧
  (∀ (x0 : Nat) (x1 : Int32) (x2 : Int32) (x3 : Int32) (x4 : Int32) (x5 : Int32) (y0 : Int32) (h : AH) (Q : Option Value → AH → Prop), WP 58 54 [.ref x0, .int x1, .int x2, .int x3, .int x4, .int x5] ([.int y0]) h Q ↔ Q (some (.int y0)) h) ∧
  (∀ (x0 : Nat) (x1 : Int32) (x2 : Int32) (x3 : Int32) (x4 : Int32) (x5 : Int32) (st : List Value) (h : AH) (Q : Option Value → AH → Prop), WP 58 55 [.ref x0, .int x1, .int x2, .int x3, .int x4, .int x5] (st) h Q ↔ WP 58 58 [.ref x0, .int x1, .int x2, .int x3, .int x4, .int (x5 + (1))] (st) h Q) ∧
  (∀ (x0 : Nat) (x1 : Int32) (x2 : Int32) (x3 : Int32) (x4 : Int32) (x5 : Int32) (st : List Value) (h : AH) (Q : Option Value → AH → Prop), WP 58 58 [.ref x0, .int x1, .int x2, .int x3, .int x4, .int x5] (st) h Q ↔ WP 58 21 [.ref x0, .int x1, .int x2, .int x3, .int x4, .int x5] (st) h Q) ∧
  (∀ (x0 : Nat) (x1 : Int32) (x2 : Int32) (x3 : Int32) (x4 : Int32) (x5 : Int32) (st : List Value) (h : AH) (Q : Option Value → AH → Prop), WP 58 61 [.ref x0, .int x1, .int x2, .int x3, .int x4, .int x5] (st) h Q ↔ WP 58 64 [.ref x0, .int x1, .int x2, .int x3, .int (x4 + (1)), .int x5] (st) h Q) ∧
  (∀ (x0 : Nat) (x1 : Int32) (x2 : Int32) (x3 : Int32) (x4 : Int32) (x5 : Int32) (st : List Value) (h : AH) (Q : Option Value → AH → Prop), WP 58 64 [.ref x0, .int x1, .int x2, .int x3, .int x4, .int x5] (st) h Q ↔ WP 58 6 [.ref x0, .int x1, .int x2, .int x3, .int x4, .int x5] (st) h Q) ∧
  (∀ (x0 : Nat) (x1 : Int32) (x2 : Int32) (x3 : Int32) (x4 : Int32) (x5 : Value) (st : List Value) (h : AH) (Q : Option Value → AH → Prop), WP 58 67 [.ref x0, .int x1, .int x2, .int x3, .int x4, x5] (st) h Q ↔ WP 58 68 [.ref x0, .int x1, .int x2, .int x3, .int x4, x5] (.int (-1) :: st) h Q) ∧
  (∀ (x0 : Nat) (x1 : Int32) (x2 : Int32) (x3 : Int32) (x4 : Int32) (x5 : Value) (y0 : Int32) (h : AH) (Q : Option Value → AH → Prop), WP 58 68 [.ref x0, .int x1, .int x2, .int x3, .int x4, x5] ([.int y0]) h Q ↔ Q (some (.int y0)) h) :=
  ⟨fun _ _ _ _ _ _ _ => WP_s (show ct 58 0 = some (.iload_n 1, 0, []) by decide +kernel) rfl,
  fun _ _ _ _ _ _ _ => WC_0 (show ct 58 1 = some (.invokestatic 85, 3, [218, 1, 0, 0, 0, 808, 699, 0]) by decide +kernel) (Nat.le_of_ble_eq_true rfl) (Nat.le_of_ble_eq_true rfl) rfl rfl,
  fun _ _ _ _ _ _ _ _ => WP_s (show ct 58 4 = some (.istore 4, 0, []) by decide +kernel) rfl,
  fun _ _ _ _ _ _ _ _ _ => WP_s (show ct 58 8 = some (.iload_n 3, 0, []) by decide +kernel) rfl,
  fun _ _ _ _ _ _ _ _ _ _ _ => WI_gt (show ct 58 9 = some (.if_icmp .gt 58, 0, [67]) by decide +kernel) (by decide),
  fun _ _ _ _ _ _ _ _ _ => WP_s (show ct 58 12 = some (.aload_n 0, 0, []) by decide +kernel) rfl,
  fun _ _ _ _ _ _ _ _ _ => WP_s (show ct 58 13 = some (.iload 4, 0, []) by decide +kernel) rfl,
  fun _ _ _ _ _ _ _ _ _ _ ht => WC_1 (show ct 58 15 = some (.invokevirtual 50, 3, [59, 2, 1, 7, 0, 809, 811, 22]) by decide +kernel) (Nat.le_of_ble_eq_true rfl) (Nat.le_of_ble_eq_true rfl) rfl rfl ht,
  fun _ _ _ _ _ _ _ _ _ => WP_s (show ct 58 18 = some (.iload_n 1, 0, []) by decide +kernel) rfl,
  fun _ _ _ _ _ _ _ _ _ _ => WP_s (show ct 58 19 = some (.istore 5, 0, []) by decide +kernel) rfl,
  fun _ _ _ _ _ _ _ _ _ => WP_s (show ct 58 23 = some (.aload_n 0, 0, []) by decide +kernel) rfl,
  fun _ _ _ _ _ _ _ _ _ _ ht => WH_gI (show ct 58 24 = some (.getfield 54, 1, [6, 5, 0, 433]) by decide +kernel) (by decide) ht,
  fun _ _ _ _ _ _ _ _ _ _ _ => WI_ge (show ct 58 27 = some (.if_icmp .ge 34, 0, [61]) by decide +kernel) (by decide),
  fun _ _ _ _ _ _ _ _ _ => WP_s (show ct 58 30 = some (.aload_n 0, 0, []) by decide +kernel) rfl,
  fun _ _ _ _ _ _ _ _ _ _ ht => WH_gR (show ct 58 31 = some (.getfield 9, 1, [6, 2, 2, 430]) by decide +kernel) ht,
  fun _ _ _ _ _ _ _ _ _ => WP_s (show ct 58 34 = some (.iload 5, 0, []) by decide +kernel) rfl,
  fun _ _ _ _ _ _ _ _ _ _ _ ht hi => WH_bald (show ct 58 36 = some (.baload, 1, []) by decide +kernel) ht hi,
  fun _ _ _ _ _ _ _ _ _ => WP_s (show ct 58 37 = some (.iload 4, 0, []) by decide +kernel) rfl,
  fun _ _ _ _ _ _ _ _ _ _ _ => WI_gt (show ct 58 39 = some (.if_icmp .gt 16, 0, [55]) by decide +kernel) (by decide),
  fun _ _ _ _ _ _ _ _ _ => WP_s (show ct 58 42 = some (.iload 5, 0, []) by decide +kernel) rfl,
  fun _ _ _ _ _ _ _ _ _ => WP_s (show ct 58 44 = some (.iload_n 1, 0, []) by decide +kernel) rfl,
  fun _ _ _ _ _ _ _ _ _ => WP_s (show ct 58 45 = some (.iload_n 2, 0, []) by decide +kernel) rfl,
  fun _ _ _ _ _ _ _ _ _ _ _ => WC_0 (show ct 58 46 = some (.invokestatic 91, 3, [142, 3, 0, 0, 1, 830, 831, 0]) by decide +kernel) (Nat.le_of_ble_eq_true rfl) (Nat.le_of_ble_eq_true rfl) rfl rfl,
  fun _ _ _ _ _ _ _ _ _ _ => WZ_eq (show ct 58 49 = some (.ifCond .eq 6, 0, [55]) by decide +kernel) (by decide),
  fun _ _ _ _ _ _ _ _ _ => WP_s (show ct 58 52 = some (.iload 4, 0, []) by decide +kernel) rfl,
  fun _ _ _ _ _ _ _ _ _ => WR_i (show ct 58 54 = some (.ireturn, 2, [0]) by decide +kernel),
  fun _ _ _ _ _ _ _ _ _ => WP_s (show ct 58 55 = some (.iinc 5 1, 0, []) by decide +kernel) rfl,
  fun _ _ _ _ _ _ _ _ _ => WP_s (show ct 58 58 = some (.goto (-37), 0, [21]) by decide +kernel) rfl,
  fun _ _ _ _ _ _ _ _ _ => WP_s (show ct 58 61 = some (.iinc 4 1, 0, []) by decide +kernel) rfl,
  fun _ _ _ _ _ _ _ _ _ => WP_s (show ct 58 64 = some (.goto (-58), 0, [6]) by decide +kernel) rfl,
  fun _ _ _ _ _ _ _ _ _ => WP_s (show ct 58 67 = some (.iconst (-1), 0, []) by decide +kernel) rfl,
  fun _ _ _ _ _ _ _ _ _ => WR_i (show ct 58 68 = some (.ireturn, 2, [0]) by decide +kernel)⟩
/-! 59: FewBowls$Reach.widenTo(I)V; loop heads [7] -/
theorem w59_7 : ∀ (x0 : Nat) (x1 : Int32) (x2 : Int32) (st : List Value) (h : AH) (Q : Option Value → AH → Prop), WP 59 7 [.ref x0, .int x1, .int x2] (st) h Q ↔ WP 59 8 [.ref x0, .int x1, .int x2] (.int x2 :: st) h Q := fun _ _ _ _ _ _ => WP_s (show ct 59 7 = some (.iload_n 2, 0, []) by decide +kernel) rfl
set_option maxRecDepth 10000 in
theorem w59 : (∀ (x0 : Nat) (x1 : Int32) (st : List Value) (h : AH) (Q : Option Value → AH → Prop), WP 59 0 [.ref x0, .int x1, .retAddr 0] (st) h Q ↔ WP 59 1 [.ref x0, .int x1, .retAddr 0] (.ref x0 :: st) h Q) ∧
  (∀ (x0 : Nat) (x1 : Int32) (y0 : Nat) (st : List Value) (h : AH) (Q : Option Value → AH → Prop) (ht : hT h y0 = 7), WP 59 1 [.ref x0, .int x1, .retAddr 0] (.ref y0 :: st) h Q ↔ WP 59 4 [.ref x0, .int x1, .retAddr 0] (.int (hI h y0 7) :: st) h Q) ∧
  (∀ (x0 : Nat) (x1 : Int32) (st : List Value) (h : AH) (Q : Option Value → AH → Prop), WP 59 4 [.ref x0, .int x1, .retAddr 0] (st) h Q ↔ WP 59 5 [.ref x0, .int x1, .retAddr 0] (.int (1) :: st) h Q) ∧
  (∀ (x0 : Nat) (x1 : Int32) (y0 : Int32) (y1 : Int32) (st : List Value) (h : AH) (Q : Option Value → AH → Prop), WP 59 5 [.ref x0, .int x1, .retAddr 0] (.int y0 :: .int y1 :: st) h Q ↔ WP 59 6 [.ref x0, .int x1, .retAddr 0] (.int (y1 + y0) :: st) h Q) ∧
  (∀ (x0 : Nat) (x1 : Int32) (y0 : Int32) (st : List Value) (h : AH) (Q : Option Value → AH → Prop), WP 59 6 [.ref x0, .int x1, .retAddr 0] (.int y0 :: st) h Q ↔ WP 59 7 [.ref x0, .int x1, .int y0] (st) h Q) ∧
  (∀ (x0 : Nat) (x1 : Int32) (x2 : Int32) (st : List Value) (h : AH) (Q : Option Value → AH → Prop), WP 59 8 [.ref x0, .int x1, .int x2] (st) h Q ↔ WP 59 9 [.ref x0, .int x1, .int x2] (.int x1 :: st) h Q) ∧
  (∀ (x0 : Nat) (x1 : Int32) (x2 : Int32) (y0 : Int32) (y1 : Int32) (st : List Value) (h : AH) (Q : Option Value → AH → Prop), WP 59 9 [.ref x0, .int x1, .int x2] (.int y0 :: .int y1 :: st) h Q ↔ ((y0 < y1 → WP 59 28 [.ref x0, .int x1, .int x2] (st) h Q) ∧ (¬ y0 < y1 → WP 59 12 [.ref x0, .int x1, .int x2] (st) h Q))) ∧
  (∀ (x0 : Nat) (x1 : Int32) (x2 : Int32) (st : List Value) (h : AH) (Q : Option Value → AH → Prop), WP 59 12 [.ref x0, .int x1, .int x2] (st) h Q ↔ WP 59 13 [.ref x0, .int x1, .int x2] (.ref x0 :: st) h Q) ∧
  (∀ (x0 : Nat) (x1 : Int32) (x2 : Int32) (st : List Value) (h : AH) (Q : Option Value → AH → Prop), WP 59 13 [.ref x0, .int x1, .int x2] (st) h Q ↔ WP 59 14 [.ref x0, .int x1, .int x2] (.int x2 :: st) h Q) ∧
  (∀ (x0 : Nat) (x1 : Int32) (x2 : Int32) (y1 : Nat) (y0 : Int32) (h : AH) (Q : Option Value → AH → Prop) (ht : hT h y1 = 7), WP 59 14 [.ref x0, .int x1, .int x2] ([.int y0, .ref y1]) h Q ↔ WPM 60 [.ref y1, .int y0] h (fun r h' => WP 59 17 [.ref x0, .int x1, .int x2] (r.toList ++ []) h' Q)) ∧
  (∀ (x0 : Nat) (x1 : Int32) (x2 : Int32) (st : List Value) (h : AH) (Q : Option Value → AH → Prop), WP 59 17 [.ref x0, .int x1, .int x2] (st) h Q ↔ WP 59 18 [.ref x0, .int x1, .int x2] (.ref x0 :: st) h Q) ∧
  (∀ (x0 : Nat) (x1 : Int32) (x2 : Int32) (st : List Value) (h : AH) (Q : Option Value → AH → Prop), WP 59 18 [.ref x0, .int x1, .int x2] (st) h Q ↔ WP 59 19 [.ref x0, .int x1, .int x2] (.int x2 :: st) h Q) ∧
  (∀ (x0 : Nat) (x1 : Int32) (x2 : Int32) (y0 : Int32) (y1 : Nat) (st : List Value) (h : AH) (Q : Option Value → AH → Prop) (ht : hT h y1 = 7), WP 59 19 [.ref x0, .int x1, .int x2] (.int y0 :: .ref y1 :: st) h Q ↔ WP 59 22 [.ref x0, .int x1, .int x2] (st) (sI h y1 7 y0) Q) ∧
  (∀ (x0 : Nat) (x1 : Int32) (x2 : Int32) (st : List Value) (h : AH) (Q : Option Value → AH → Prop), WP 59 22 [.ref x0, .int x1, .int x2] (st) h Q ↔ WP 59 25 [.ref x0, .int x1, .int (x2 + (1))] (st) h Q) ∧
  (∀ (x0 : Nat) (x1 : Int32) (x2 : Int32) (st : List Value) (h : AH) (Q : Option Value → AH → Prop), WP 59 25 [.ref x0, .int x1, .int x2] (st) h Q ↔ WP 59 7 [.ref x0, .int x1, .int x2] (st) h Q) ∧
  (∀ (x0 : Nat) (x1 : Int32) (x2 : Int32) (h : AH) (Q : Option Value → AH → Prop), WP 59 28 [.ref x0, .int x1, .int x2] ([]) h Q ↔ Q none h) :=
  ⟨fun _ _ _ _ _ => WP_s (show ct 59 0 = some (.aload_n 0, 0, []) by decide +kernel) rfl,
  fun _ _ _ _ _ _ ht => WH_gI (show ct 59 1 = some (.getfield 82, 1, [6, 7, 0, 435]) by decide +kernel) (by decide) ht,
  fun _ _ _ _ _ => WP_s (show ct 59 4 = some (.iconst 1, 0, []) by decide +kernel) rfl,
  fun _ _ _ _ _ _ _ => WP_s (show ct 59 5 = some (.iadd, 0, []) by decide +kernel) rfl,
  fun _ _ _ _ _ _ => WP_s (show ct 59 6 = some (.istore_n 2, 0, []) by decide +kernel) rfl,
  fun _ _ _ _ _ _ => WP_s (show ct 59 8 = some (.iload_n 1, 0, []) by decide +kernel) rfl,
  fun _ _ _ _ _ _ _ _ => WI_gt (show ct 59 9 = some (.if_icmp .gt 19, 0, [28]) by decide +kernel) (by decide),
  fun _ _ _ _ _ _ => WP_s (show ct 59 12 = some (.aload_n 0, 0, []) by decide +kernel) rfl,
  fun _ _ _ _ _ _ => WP_s (show ct 59 13 = some (.iload_n 2, 0, []) by decide +kernel) rfl,
  fun _ _ _ _ _ _ _ ht => WC_1 (show ct 59 14 = some (.invokevirtual 95, 3, [60, 2, 1, 7, 0, 813, 815, 23]) by decide +kernel) (Nat.le_of_ble_eq_true rfl) (Nat.le_of_ble_eq_true rfl) rfl rfl ht,
  fun _ _ _ _ _ _ => WP_s (show ct 59 17 = some (.aload_n 0, 0, []) by decide +kernel) rfl,
  fun _ _ _ _ _ _ => WP_s (show ct 59 18 = some (.iload_n 2, 0, []) by decide +kernel) rfl,
  fun _ _ _ _ _ _ _ _ ht => WH_pI (show ct 59 19 = some (.putfield 82, 1, [6, 7, 0, 0, 435]) by decide +kernel) ht,
  fun _ _ _ _ _ _ => WP_s (show ct 59 22 = some (.iinc 2 1, 0, []) by decide +kernel) rfl,
  fun _ _ _ _ _ _ => WP_s (show ct 59 25 = some (.goto (-18), 0, [7]) by decide +kernel) rfl,
  fun _ _ _ _ _ => WR_v (show ct 59 28 = some (.return_, 2, [0]) by decide +kernel)⟩
/-! 60: FewBowls$Reach.widen(I)V; loop heads [22, 64] -/
theorem w60_22 : ∀ (x0 : Nat) (x1 : Int32) (x2 : Int32) (st : List Value) (h : AH) (Q : Option Value → AH → Prop), WP 60 22 [.ref x0, .int x1, .int x2] (st) h Q ↔ WP 60 23 [.ref x0, .int x1, .int x2] (.int x2 :: st) h Q := fun _ _ _ _ _ _ => WP_s (show ct 60 22 = some (.iload_n 2, 0, []) by decide +kernel) rfl
theorem w60_64 : ∀ (x0 : Nat) (x1 : Int32) (x2 : Int32) (st : List Value) (h : AH) (Q : Option Value → AH → Prop), WP 60 64 [.ref x0, .int x1, .int x2] (st) h Q ↔ WP 60 65 [.ref x0, .int x1, .int x2] (.int x2 :: st) h Q := fun _ _ _ _ _ _ => WP_s (show ct 60 64 = some (.iload_n 2, 0, []) by decide +kernel) rfl
set_option maxRecDepth 10000 in
theorem w60_a : (∀ (x0 : Nat) (x1 : Int32) (st : List Value) (h : AH) (Q : Option Value → AH → Prop), WP 60 0 [.ref x0, .int x1, .retAddr 0] (st) h Q ↔ WP 60 1 [.ref x0, .int x1, .retAddr 0] (.ref x0 :: st) h Q) ∧
  (∀ (x0 : Nat) (x1 : Int32) (st : List Value) (h : AH) (Q : Option Value → AH → Prop), WP 60 1 [.ref x0, .int x1, .retAddr 0] (st) h Q ↔ WP 60 2 [.ref x0, .int x1, .retAddr 0] (.ref x0 :: st) h Q) ∧
  (∀ (x0 : Nat) (x1 : Int32) (y0 : Nat) (st : List Value) (h : AH) (Q : Option Value → AH → Prop) (ht : hT h y0 = 7), WP 60 2 [.ref x0, .int x1, .retAddr 0] (.ref y0 :: st) h Q ↔ WP 60 5 [.ref x0, .int x1, .retAddr 0] (.ref (hR h y0 0) :: st) h Q) ∧
  (∀ (x0 : Nat) (x1 : Int32) (st : List Value) (h : AH) (Q : Option Value → AH → Prop), WP 60 5 [.ref x0, .int x1, .retAddr 0] (st) h Q ↔ WP 60 6 [.ref x0, .int x1, .retAddr 0] (.ref x0 :: st) h Q) ∧
  (∀ (x0 : Nat) (x1 : Int32) (y0 : Nat) (st : List Value) (h : AH) (Q : Option Value → AH → Prop) (ht : hT h y0 = 7), WP 60 6 [.ref x0, .int x1, .retAddr 0] (.ref y0 :: st) h Q ↔ WP 60 9 [.ref x0, .int x1, .retAddr 0] (.int (hI h y0 5) :: st) h Q) ∧
  (∀ (x0 : Nat) (x1 : Int32) (y2 : Nat) (y1 : Nat) (y0 : Int32) (h : AH) (Q : Option Value → AH → Prop) (ht : hT h y1 = 3), WP 60 9 [.ref x0, .int x1, .retAddr 0] ([.int y0, .ref y1, .ref y2]) h Q ↔ WPM 18 [.ref y1, .int y0] h (fun r h' => WP 60 12 [.ref x0, .int x1, .retAddr 0] (r.toList ++ [.ref y2]) h' Q)) ∧
  (∀ (x0 : Nat) (x1 : Int32) (y0 : Nat) (y1 : Nat) (st : List Value) (h : AH) (Q : Option Value → AH → Prop) (ht : hT h y1 = 7), WP 60 12 [.ref x0, .int x1, .retAddr 0] (.ref y0 :: .ref y1 :: st) h Q ↔ WP 60 15 [.ref x0, .int x1, .retAddr 0] (st) (sR h y1 3 y0) Q) ∧
  (∀ (x0 : Nat) (x1 : Int32) (st : List Value) (h : AH) (Q : Option Value → AH → Prop), WP 60 15 [.ref x0, .int x1, .retAddr 0] (st) h Q ↔ WP 60 16 [.ref x0, .int x1, .retAddr 0] (.ref x0 :: st) h Q) ∧
  (∀ (x0 : Nat) (x1 : Int32) (st : List Value) (h : AH) (Q : Option Value → AH → Prop), WP 60 16 [.ref x0, .int x1, .retAddr 0] (st) h Q ↔ WP 60 17 [.ref x0, .int x1, .retAddr 0] (.int (0) :: st) h Q) ∧
  (∀ (x0 : Nat) (x1 : Int32) (y0 : Int32) (y1 : Nat) (st : List Value) (h : AH) (Q : Option Value → AH → Prop) (ht : hT h y1 = 7), WP 60 17 [.ref x0, .int x1, .retAddr 0] (.int y0 :: .ref y1 :: st) h Q ↔ WP 60 20 [.ref x0, .int x1, .retAddr 0] (st) (sI h y1 4 y0) Q) ∧
  (∀ (x0 : Nat) (x1 : Int32) (st : List Value) (h : AH) (Q : Option Value → AH → Prop), WP 60 20 [.ref x0, .int x1, .retAddr 0] (st) h Q ↔ WP 60 21 [.ref x0, .int x1, .retAddr 0] (.int (0) :: st) h Q) ∧
  (∀ (x0 : Nat) (x1 : Int32) (y0 : Int32) (st : List Value) (h : AH) (Q : Option Value → AH → Prop), WP 60 21 [.ref x0, .int x1, .retAddr 0] (.int y0 :: st) h Q ↔ WP 60 22 [.ref x0, .int x1, .int y0] (st) h Q) ∧
  (∀ (x0 : Nat) (x1 : Int32) (x2 : Int32) (st : List Value) (h : AH) (Q : Option Value → AH → Prop), WP 60 23 [.ref x0, .int x1, .int x2] (st) h Q ↔ WP 60 24 [.ref x0, .int x1, .int x2] (.ref x0 :: st) h Q) ∧
  (∀ (x0 : Nat) (x1 : Int32) (x2 : Int32) (y0 : Nat) (st : List Value) (h : AH) (Q : Option Value → AH → Prop) (ht : hT h y0 = 7), WP 60 24 [.ref x0, .int x1, .int x2] (.ref y0 :: st) h Q ↔ WP 60 27 [.ref x0, .int x1, .int x2] (.int (hI h y0 5) :: st) h Q) ∧
  (∀ (x0 : Nat) (x1 : Int32) (x2 : Int32) (y0 : Int32) (y1 : Int32) (st : List Value) (h : AH) (Q : Option Value → AH → Prop), WP 60 27 [.ref x0, .int x1, .int x2] (.int y0 :: .int y1 :: st) h Q ↔ ((y0 ≤ y1 → WP 60 62 [.ref x0, .int x1, .int x2] (st) h Q) ∧ (¬ y0 ≤ y1 → WP 60 30 [.ref x0, .int x1, .int x2] (st) h Q))) ∧
  (∀ (x0 : Nat) (x1 : Int32) (x2 : Int32) (st : List Value) (h : AH) (Q : Option Value → AH → Prop), WP 60 30 [.ref x0, .int x1, .int x2] (st) h Q ↔ WP 60 31 [.ref x0, .int x1, .int x2] (.ref x0 :: st) h Q) ∧
  (∀ (x0 : Nat) (x1 : Int32) (x2 : Int32) (y0 : Nat) (st : List Value) (h : AH) (Q : Option Value → AH → Prop) (ht : hT h y0 = 7), WP 60 31 [.ref x0, .int x1, .int x2] (.ref y0 :: st) h Q ↔ WP 60 34 [.ref x0, .int x1, .int x2] (.ref (hR h y0 2) :: st) h Q) ∧
  (∀ (x0 : Nat) (x1 : Int32) (x2 : Int32) (st : List Value) (h : AH) (Q : Option Value → AH → Prop), WP 60 34 [.ref x0, .int x1, .int x2] (st) h Q ↔ WP 60 35 [.ref x0, .int x1, .int x2] (.int x2 :: st) h Q) ∧
  (∀ (x0 : Nat) (x1 : Int32) (x2 : Int32) (y0 : Int32) (y1 : Nat) (st : List Value) (h : AH) (Q : Option Value → AH → Prop) (ht : hT h y1 = 101 ∨ hT h y1 = 102) (hi : inb y0 (hL h y1) = true), WP 60 35 [.ref x0, .int x1, .int x2] (.int y0 :: .ref y1 :: st) h Q ↔ WP 60 36 [.ref x0, .int x1, .int x2] (.int (hI h y1 y0.toNatClampNeg) :: st) h Q) ∧
  (∀ (x0 : Nat) (x1 : Int32) (x2 : Int32) (st : List Value) (h : AH) (Q : Option Value → AH → Prop), WP 60 36 [.ref x0, .int x1, .int x2] (st) h Q ↔ WP 60 37 [.ref x0, .int x1, .int x2] (.int x1 :: st) h Q) ∧
  (∀ (x0 : Nat) (x1 : Int32) (x2 : Int32) (y0 : Int32) (y1 : Int32) (st : List Value) (h : AH) (Q : Option Value → AH → Prop), WP 60 37 [.ref x0, .int x1, .int x2] (.int y0 :: .int y1 :: st) h Q ↔ ((y0 ≤ y1 → WP 60 56 [.ref x0, .int x1, .int x2] (st) h Q) ∧ (¬ y0 ≤ y1 → WP 60 40 [.ref x0, .int x1, .int x2] (st) h Q))) ∧
  (∀ (x0 : Nat) (x1 : Int32) (x2 : Int32) (st : List Value) (h : AH) (Q : Option Value → AH → Prop), WP 60 40 [.ref x0, .int x1, .int x2] (st) h Q ↔ WP 60 41 [.ref x0, .int x1, .int x2] (.int x2 :: st) h Q) ∧
  (∀ (x0 : Nat) (x1 : Int32) (x2 : Int32) (y0 : Int32) (h : AH) (Q : Option Value → AH → Prop), WP 60 41 [.ref x0, .int x1, .int x2] ([.int y0]) h Q ↔ WPM 218 [.int y0] h (fun r h' => WP 60 44 [.ref x0, .int x1, .int x2] (r.toList ++ []) h' Q)) ∧
  (∀ (x0 : Nat) (x1 : Int32) (x2 : Int32) (st : List Value) (h : AH) (Q : Option Value → AH → Prop), WP 60 44 [.ref x0, .int x1, .int x2] (st) h Q ↔ WP 60 45 [.ref x0, .int x1, .int x2] (.int x1 :: st) h Q) ∧
  (∀ (x0 : Nat) (x1 : Int32) (x2 : Int32) (st : List Value) (h : AH) (Q : Option Value → AH → Prop), WP 60 45 [.ref x0, .int x1, .int x2] (st) h Q ↔ WP 60 46 [.ref x0, .int x1, .int x2] (.int (1) :: st) h Q) ∧
  (∀ (x0 : Nat) (x1 : Int32) (x2 : Int32) (y0 : Int32) (y1 : Int32) (st : List Value) (h : AH) (Q : Option Value → AH → Prop), WP 60 46 [.ref x0, .int x1, .int x2] (.int y0 :: .int y1 :: st) h Q ↔ WP 60 47 [.ref x0, .int x1, .int x2] (.int (y1 - y0) :: st) h Q) ∧
  (∀ (x0 : Nat) (x1 : Int32) (x2 : Int32) (y0 : Int32) (y1 : Int32) (st : List Value) (h : AH) (Q : Option Value → AH → Prop), WP 60 47 [.ref x0, .int x1, .int x2] (.int y0 :: .int y1 :: st) h Q ↔ ((¬ y1 = y0 → WP 60 56 [.ref x0, .int x1, .int x2] (st) h Q) ∧ (y1 = y0 → WP 60 50 [.ref x0, .int x1, .int x2] (st) h Q))) ∧
  (∀ (x0 : Nat) (x1 : Int32) (x2 : Int32) (st : List Value) (h : AH) (Q : Option Value → AH → Prop), WP 60 50 [.ref x0, .int x1, .int x2] (st) h Q ↔ WP 60 51 [.ref x0, .int x1, .int x2] (.ref x0 :: st) h Q) ∧
  (∀ (x0 : Nat) (x1 : Int32) (x2 : Int32) (st : List Value) (h : AH) (Q : Option Value → AH → Prop), WP 60 51 [.ref x0, .int x1, .int x2] (st) h Q ↔ WP 60 52 [.ref x0, .int x1, .int x2] (.int x2 :: st) h Q) ∧
  (∀ (x0 : Nat) (x1 : Int32) (x2 : Int32) (st : List Value) (h : AH) (Q : Option Value → AH → Prop), WP 60 52 [.ref x0, .int x1, .int x2] (st) h Q ↔ WP 60 53 [.ref x0, .int x1, .int x2] (.int x1 :: st) h Q) ∧
  (∀ (x0 : Nat) (x1 : Int32) (x2 : Int32) (y2 : Nat) (y1 : Int32) (y0 : Int32) (h : AH) (Q : Option Value → AH → Prop) (ht : hT h y2 = 7), WP 60 53 [.ref x0, .int x1, .int x2] ([.int y0, .int y1, .ref y2]) h Q ↔ WPM 61 [.ref y2, .int y1, .int y0] h (fun r h' => WP 60 56 [.ref x0, .int x1, .int x2] (r.toList ++ []) h' Q)) ∧
  (∀ (x0 : Nat) (x1 : Int32) (x2 : Int32) (st : List Value) (h : AH) (Q : Option Value → AH → Prop), WP 60 56 [.ref x0, .int x1, .int x2] (st) h Q ↔ WP 60 59 [.ref x0, .int x1, .int (x2 + (1))] (st) h Q) ∧
  (∀ (x0 : Nat) (x1 : Int32) (x2 : Int32) (st : List Value) (h : AH) (Q : Option Value → AH → Prop), WP 60 59 [.ref x0, .int x1, .int x2] (st) h Q ↔ WP 60 22 [.ref x0, .int x1, .int x2] (st) h Q) ∧
  (∀ (x0 : Nat) (x1 : Int32) (x2 : Int32) (st : List Value) (h : AH) (Q : Option Value → AH → Prop), WP 60 62 [.ref x0, .int x1, .int x2] (st) h Q ↔ WP 60 63 [.ref x0, .int x1, .int x2] (.int (0) :: st) h Q) ∧
  (∀ (x0 : Nat) (x1 : Int32) (x2 : Int32) (y0 : Int32) (st : List Value) (h : AH) (Q : Option Value → AH → Prop), WP 60 63 [.ref x0, .int x1, .int x2] (.int y0 :: st) h Q ↔ WP 60 64 [.ref x0, .int x1, .int y0] (st) h Q) ∧
  (∀ (x0 : Nat) (x1 : Int32) (x2 : Int32) (st : List Value) (h : AH) (Q : Option Value → AH → Prop), WP 60 65 [.ref x0, .int x1, .int x2] (st) h Q ↔ WP 60 66 [.ref x0, .int x1, .int x2] (.ref x0 :: st) h Q) ∧
  (∀ (x0 : Nat) (x1 : Int32) (x2 : Int32) (y0 : Nat) (st : List Value) (h : AH) (Q : Option Value → AH → Prop) (ht : hT h y0 = 7), WP 60 66 [.ref x0, .int x1, .int x2] (.ref y0 :: st) h Q ↔ WP 60 69 [.ref x0, .int x1, .int x2] (.int (hI h y0 4) :: st) h Q) ∧
  (∀ (x0 : Nat) (x1 : Int32) (x2 : Int32) (y0 : Int32) (y1 : Int32) (st : List Value) (h : AH) (Q : Option Value → AH → Prop), WP 60 69 [.ref x0, .int x1, .int x2] (.int y0 :: .int y1 :: st) h Q ↔ ((y0 ≤ y1 → WP 60 97 [.ref x0, .int x1, .int x2] (st) h Q) ∧ (¬ y0 ≤ y1 → WP 60 72 [.ref x0, .int x1, .int x2] (st) h Q))) ∧
  (∀ (x0 : Nat) (x1 : Int32) (x2 : Int32) (st : List Value) (h : AH) (Q : Option Value → AH → Prop), WP 60 72 [.ref x0, .int x1, .int x2] (st) h Q ↔ WP 60 73 [.ref x0, .int x1, .int x2] (.int x2 :: st) h Q) ∧
  (∀ (x0 : Nat) (x1 : Int32) (x2 : Int32) (st : List Value) (h : AH) (Q : Option Value → AH → Prop), WP 60 73 [.ref x0, .int x1, .int x2] (st) h Q ↔ WP 60 74 [.ref x0, .int x1, .int x2] (.ref x0 :: st) h Q) :=
  ⟨fun _ _ _ _ _ => WP_s (show ct 60 0 = some (.aload_n 0, 0, []) by decide +kernel) rfl,
  fun _ _ _ _ _ => WP_s (show ct 60 1 = some (.aload_n 0, 0, []) by decide +kernel) rfl,
  fun _ _ _ _ _ _ ht => WH_gR (show ct 60 2 = some (.getfield 23, 1, [6, 0, 2, 428]) by decide +kernel) ht,
  fun _ _ _ _ _ => WP_s (show ct 60 5 = some (.aload_n 0, 0, []) by decide +kernel) rfl,
  fun _ _ _ _ _ _ ht => WH_gI (show ct 60 6 = some (.getfield 54, 1, [6, 5, 0, 433]) by decide +kernel) (by decide) ht,
  fun _ _ _ _ _ _ _ ht => WC_1 (show ct 60 9 = some (.invokevirtual 98, 3, [18, 2, 1, 3, 0, 817, 818, 819]) by decide +kernel) (Nat.le_of_ble_eq_true rfl) (Nat.le_of_ble_eq_true rfl) rfl rfl ht,
  fun _ _ _ _ _ _ _ ht => WH_pR (show ct 60 12 = some (.putfield 15, 1, [6, 3, 2, 0, 431]) by decide +kernel) ht,
  fun _ _ _ _ _ => WP_s (show ct 60 15 = some (.aload_n 0, 0, []) by decide +kernel) rfl,
  fun _ _ _ _ _ => WP_s (show ct 60 16 = some (.iconst 0, 0, []) by decide +kernel) rfl,
  fun _ _ _ _ _ _ _ ht => WH_pI (show ct 60 17 = some (.putfield 104, 1, [6, 4, 0, 0, 432]) by decide +kernel) ht,
  fun _ _ _ _ _ => WP_s (show ct 60 20 = some (.iconst 0, 0, []) by decide +kernel) rfl,
  fun _ _ _ _ _ _ => WP_s (show ct 60 21 = some (.istore_n 2, 0, []) by decide +kernel) rfl,
  fun _ _ _ _ _ _ => WP_s (show ct 60 23 = some (.aload_n 0, 0, []) by decide +kernel) rfl,
  fun _ _ _ _ _ _ _ ht => WH_gI (show ct 60 24 = some (.getfield 54, 1, [6, 5, 0, 433]) by decide +kernel) (by decide) ht,
  fun _ _ _ _ _ _ _ _ => WI_ge (show ct 60 27 = some (.if_icmp .ge 35, 0, [62]) by decide +kernel) (by decide),
  fun _ _ _ _ _ _ => WP_s (show ct 60 30 = some (.aload_n 0, 0, []) by decide +kernel) rfl,
  fun _ _ _ _ _ _ _ ht => WH_gR (show ct 60 31 = some (.getfield 9, 1, [6, 2, 2, 430]) by decide +kernel) ht,
  fun _ _ _ _ _ _ => WP_s (show ct 60 34 = some (.iload_n 2, 0, []) by decide +kernel) rfl,
  fun _ _ _ _ _ _ _ _ ht hi => WH_bald (show ct 60 35 = some (.baload, 1, []) by decide +kernel) ht hi,
  fun _ _ _ _ _ _ => WP_s (show ct 60 36 = some (.iload_n 1, 0, []) by decide +kernel) rfl,
  fun _ _ _ _ _ _ _ _ => WI_ge (show ct 60 37 = some (.if_icmp .ge 19, 0, [56]) by decide +kernel) (by decide),
  fun _ _ _ _ _ _ => WP_s (show ct 60 40 = some (.iload_n 2, 0, []) by decide +kernel) rfl,
  fun _ _ _ _ _ _ => WC_0 (show ct 60 41 = some (.invokestatic 85, 3, [218, 1, 0, 0, 0, 808, 699, 0]) by decide +kernel) (Nat.le_of_ble_eq_true rfl) (Nat.le_of_ble_eq_true rfl) rfl rfl,
  fun _ _ _ _ _ _ => WP_s (show ct 60 44 = some (.iload_n 1, 0, []) by decide +kernel) rfl,
  fun _ _ _ _ _ _ => WP_s (show ct 60 45 = some (.iconst 1, 0, []) by decide +kernel) rfl,
  fun _ _ _ _ _ _ _ _ => WP_s (show ct 60 46 = some (.isub, 0, []) by decide +kernel) rfl,
  fun _ _ _ _ _ _ _ _ => WI_ne (show ct 60 47 = some (.if_icmp .ne 9, 0, [56]) by decide +kernel) (by decide),
  fun _ _ _ _ _ _ => WP_s (show ct 60 50 = some (.aload_n 0, 0, []) by decide +kernel) rfl,
  fun _ _ _ _ _ _ => WP_s (show ct 60 51 = some (.iload_n 2, 0, []) by decide +kernel) rfl,
  fun _ _ _ _ _ _ => WP_s (show ct 60 52 = some (.iload_n 1, 0, []) by decide +kernel) rfl,
  fun _ _ _ _ _ _ _ _ ht => WC_1 (show ct 60 53 = some (.invokevirtual 107, 3, [61, 3, 1, 7, 0, 821, 823, 24]) by decide +kernel) (Nat.le_of_ble_eq_true rfl) (Nat.le_of_ble_eq_true rfl) rfl rfl ht,
  fun _ _ _ _ _ _ => WP_s (show ct 60 56 = some (.iinc 2 1, 0, []) by decide +kernel) rfl,
  fun _ _ _ _ _ _ => WP_s (show ct 60 59 = some (.goto (-37), 0, [22]) by decide +kernel) rfl,
  fun _ _ _ _ _ _ => WP_s (show ct 60 62 = some (.iconst 0, 0, []) by decide +kernel) rfl,
  fun _ _ _ _ _ _ _ => WP_s (show ct 60 63 = some (.istore_n 2, 0, []) by decide +kernel) rfl,
  fun _ _ _ _ _ _ => WP_s (show ct 60 65 = some (.aload_n 0, 0, []) by decide +kernel) rfl,
  fun _ _ _ _ _ _ _ ht => WH_gI (show ct 60 66 = some (.getfield 104, 1, [6, 4, 0, 432]) by decide +kernel) (by decide) ht,
  fun _ _ _ _ _ _ _ _ => WI_ge (show ct 60 69 = some (.if_icmp .ge 28, 0, [97]) by decide +kernel) (by decide),
  fun _ _ _ _ _ _ => WP_s (show ct 60 72 = some (.iload_n 2, 0, []) by decide +kernel) rfl,
  fun _ _ _ _ _ _ => WP_s (show ct 60 73 = some (.aload_n 0, 0, []) by decide +kernel) rfl⟩
set_option maxRecDepth 10000 in
theorem w60_b : (∀ (x0 : Nat) (x1 : Int32) (x2 : Int32) (y0 : Nat) (st : List Value) (h : AH) (Q : Option Value → AH → Prop) (ht : hT h y0 = 7), WP 60 74 [.ref x0, .int x1, .int x2] (.ref y0 :: st) h Q ↔ WP 60 77 [.ref x0, .int x1, .int x2] (.int (hI h y0 5) :: st) h Q) ∧
  (∀ (x0 : Nat) (x1 : Int32) (x2 : Int32) (y0 : Int32) (y1 : Int32) (st : List Value) (h : AH) (Q : Option Value → AH → Prop), WP 60 77 [.ref x0, .int x1, .int x2] (.int y0 :: .int y1 :: st) h Q ↔ ((y0 ≤ y1 → WP 60 97 [.ref x0, .int x1, .int x2] (st) h Q) ∧ (¬ y0 ≤ y1 → WP 60 80 [.ref x0, .int x1, .int x2] (st) h Q))) ∧
  (∀ (x0 : Nat) (x1 : Int32) (x2 : Int32) (st : List Value) (h : AH) (Q : Option Value → AH → Prop), WP 60 80 [.ref x0, .int x1, .int x2] (st) h Q ↔ WP 60 81 [.ref x0, .int x1, .int x2] (.ref x0 :: st) h Q) ∧
  (∀ (x0 : Nat) (x1 : Int32) (x2 : Int32) (st : List Value) (h : AH) (Q : Option Value → AH → Prop), WP 60 81 [.ref x0, .int x1, .int x2] (st) h Q ↔ WP 60 82 [.ref x0, .int x1, .int x2] (.ref x0 :: st) h Q) ∧
  (∀ (x0 : Nat) (x1 : Int32) (x2 : Int32) (y0 : Nat) (st : List Value) (h : AH) (Q : Option Value → AH → Prop) (ht : hT h y0 = 7), WP 60 82 [.ref x0, .int x1, .int x2] (.ref y0 :: st) h Q ↔ WP 60 85 [.ref x0, .int x1, .int x2] (.ref (hR h y0 3) :: st) h Q) ∧
  (∀ (x0 : Nat) (x1 : Int32) (x2 : Int32) (st : List Value) (h : AH) (Q : Option Value → AH → Prop), WP 60 85 [.ref x0, .int x1, .int x2] (st) h Q ↔ WP 60 86 [.ref x0, .int x1, .int x2] (.int x2 :: st) h Q) ∧
  (∀ (x0 : Nat) (x1 : Int32) (x2 : Int32) (y0 : Int32) (y1 : Nat) (st : List Value) (h : AH) (Q : Option Value → AH → Prop) (ht : hT h y1 = 100 ∨ hT h y1 = 110) (hi : inb y0 (hL h y1) = true), WP 60 86 [.ref x0, .int x1, .int x2] (.int y0 :: .ref y1 :: st) h Q ↔ WP 60 87 [.ref x0, .int x1, .int x2] (.int (hI h y1 y0.toNatClampNeg) :: st) h Q) ∧
  (∀ (x0 : Nat) (x1 : Int32) (x2 : Int32) (st : List Value) (h : AH) (Q : Option Value → AH → Prop), WP 60 87 [.ref x0, .int x1, .int x2] (st) h Q ↔ WP 60 88 [.ref x0, .int x1, .int x2] (.int x1 :: st) h Q) ∧
  (∀ (x0 : Nat) (x1 : Int32) (x2 : Int32) (y2 : Nat) (y1 : Int32) (y0 : Int32) (h : AH) (Q : Option Value → AH → Prop) (ht : hT h y2 = 7), WP 60 88 [.ref x0, .int x1, .int x2] ([.int y0, .int y1, .ref y2]) h Q ↔ WPM 61 [.ref y2, .int y1, .int y0] h (fun r h' => WP 60 91 [.ref x0, .int x1, .int x2] (r.toList ++ []) h' Q)) ∧
  (∀ (x0 : Nat) (x1 : Int32) (x2 : Int32) (st : List Value) (h : AH) (Q : Option Value → AH → Prop), WP 60 91 [.ref x0, .int x1, .int x2] (st) h Q ↔ WP 60 94 [.ref x0, .int x1, .int (x2 + (1))] (st) h Q) ∧
  (∀ (x0 : Nat) (x1 : Int32) (x2 : Int32) (st : List Value) (h : AH) (Q : Option Value → AH → Prop), WP 60 94 [.ref x0, .int x1, .int x2] (st) h Q ↔ WP 60 64 [.ref x0, .int x1, .int x2] (st) h Q) ∧
  (∀ (x0 : Nat) (x1 : Int32) (x2 : Int32) (h : AH) (Q : Option Value → AH → Prop), WP 60 97 [.ref x0, .int x1, .int x2] ([]) h Q ↔ Q none h) :=
  ⟨fun _ _ _ _ _ _ _ ht => WH_gI (show ct 60 74 = some (.getfield 54, 1, [6, 5, 0, 433]) by decide +kernel) (by decide) ht,
  fun _ _ _ _ _ _ _ _ => WI_ge (show ct 60 77 = some (.if_icmp .ge 20, 0, [97]) by decide +kernel) (by decide),
  fun _ _ _ _ _ _ => WP_s (show ct 60 80 = some (.aload_n 0, 0, []) by decide +kernel) rfl,
  fun _ _ _ _ _ _ => WP_s (show ct 60 81 = some (.aload_n 0, 0, []) by decide +kernel) rfl,
  fun _ _ _ _ _ _ _ ht => WH_gR (show ct 60 82 = some (.getfield 15, 1, [6, 3, 2, 431]) by decide +kernel) ht,
  fun _ _ _ _ _ _ => WP_s (show ct 60 85 = some (.iload_n 2, 0, []) by decide +kernel) rfl,
  fun _ _ _ _ _ _ _ _ ht hi => WH_iald (show ct 60 86 = some (.iaload, 1, []) by decide +kernel) ht hi,
  fun _ _ _ _ _ _ => WP_s (show ct 60 87 = some (.iload_n 1, 0, []) by decide +kernel) rfl,
  fun _ _ _ _ _ _ _ _ ht => WC_1 (show ct 60 88 = some (.invokevirtual 107, 3, [61, 3, 1, 7, 0, 821, 823, 24]) by decide +kernel) (Nat.le_of_ble_eq_true rfl) (Nat.le_of_ble_eq_true rfl) rfl rfl ht,
  fun _ _ _ _ _ _ => WP_s (show ct 60 91 = some (.iinc 2 1, 0, []) by decide +kernel) rfl,
  fun _ _ _ _ _ _ => WP_s (show ct 60 94 = some (.goto (-30), 0, [64]) by decide +kernel) rfl,
  fun _ _ _ _ _ => WR_v (show ct 60 97 = some (.return_, 2, [0]) by decide +kernel)⟩
/-- all of 60 -/
def w60_n : Nat := 2
/-! 61: FewBowls$Reach.spread(II)V; loop heads [2] -/
theorem w61_2 : ∀ (x0 : Nat) (x1 : Int32) (x2 : Int32) (x3 : Int32) (x4 : Value) (st : List Value) (h : AH) (Q : Option Value → AH → Prop), WP 61 2 [.ref x0, .int x1, .int x2, .int x3, x4] (st) h Q ↔ WP 61 3 [.ref x0, .int x1, .int x2, .int x3, x4] (.int x3 :: st) h Q := fun _ _ _ _ _ _ _ _ => WP_s (show ct 61 2 = some (.iload_n 3, 0, []) by decide +kernel) rfl
set_option maxRecDepth 10000 in
theorem w61_a : (∀ (x0 : Nat) (x1 : Int32) (x2 : Int32) (st : List Value) (h : AH) (Q : Option Value → AH → Prop), WP 61 0 [.ref x0, .int x1, .int x2, .retAddr 0, .retAddr 0] (st) h Q ↔ WP 61 1 [.ref x0, .int x1, .int x2, .retAddr 0, .retAddr 0] (.int (0) :: st) h Q) ∧
  (∀ (x0 : Nat) (x1 : Int32) (x2 : Int32) (y0 : Int32) (st : List Value) (h : AH) (Q : Option Value → AH → Prop), WP 61 1 [.ref x0, .int x1, .int x2, .retAddr 0, .retAddr 0] (.int y0 :: st) h Q ↔ WP 61 2 [.ref x0, .int x1, .int x2, .int y0, .retAddr 0] (st) h Q) ∧
  (∀ (x0 : Nat) (x1 : Int32) (x2 : Int32) (x3 : Int32) (x4 : Value) (st : List Value) (h : AH) (Q : Option Value → AH → Prop), WP 61 3 [.ref x0, .int x1, .int x2, .int x3, x4] (st) h Q ↔ WP 61 4 [.ref x0, .int x1, .int x2, .int x3, x4] (.ref x0 :: st) h Q) ∧
  (∀ (x0 : Nat) (x1 : Int32) (x2 : Int32) (x3 : Int32) (x4 : Value) (y0 : Nat) (st : List Value) (h : AH) (Q : Option Value → AH → Prop) (ht : hT h y0 = 7), WP 61 4 [.ref x0, .int x1, .int x2, .int x3, x4] (.ref y0 :: st) h Q ↔ WP 61 7 [.ref x0, .int x1, .int x2, .int x3, x4] (.ref (hR h y0 1) :: st) h Q) ∧
  (∀ (x0 : Nat) (x1 : Int32) (x2 : Int32) (x3 : Int32) (x4 : Value) (y0 : Nat) (st : List Value) (h : AH) (Q : Option Value → AH → Prop) (ht : hT h y0 = 1), WP 61 7 [.ref x0, .int x1, .int x2, .int x3, x4] (.ref y0 :: st) h Q ↔ WP 61 10 [.ref x0, .int x1, .int x2, .int x3, x4] (.int (hI h y0 0) :: st) h Q) ∧
  (∀ (x0 : Nat) (x1 : Int32) (x2 : Int32) (x3 : Int32) (x4 : Value) (y0 : Int32) (y1 : Int32) (st : List Value) (h : AH) (Q : Option Value → AH → Prop), WP 61 10 [.ref x0, .int x1, .int x2, .int x3, x4] (.int y0 :: .int y1 :: st) h Q ↔ ((y0 ≤ y1 → WP 61 89 [.ref x0, .int x1, .int x2, .int x3, x4] (st) h Q) ∧ (¬ y0 ≤ y1 → WP 61 13 [.ref x0, .int x1, .int x2, .int x3, x4] (st) h Q))) ∧
  (∀ (x0 : Nat) (x1 : Int32) (x2 : Int32) (x3 : Int32) (x4 : Value) (st : List Value) (h : AH) (Q : Option Value → AH → Prop), WP 61 13 [.ref x0, .int x1, .int x2, .int x3, x4] (st) h Q ↔ WP 61 14 [.ref x0, .int x1, .int x2, .int x3, x4] (.ref x0 :: st) h Q) ∧
  (∀ (x0 : Nat) (x1 : Int32) (x2 : Int32) (x3 : Int32) (x4 : Value) (y0 : Nat) (st : List Value) (h : AH) (Q : Option Value → AH → Prop) (ht : hT h y0 = 7), WP 61 14 [.ref x0, .int x1, .int x2, .int x3, x4] (.ref y0 :: st) h Q ↔ WP 61 17 [.ref x0, .int x1, .int x2, .int x3, x4] (.ref (hR h y0 1) :: st) h Q) ∧
  (∀ (x0 : Nat) (x1 : Int32) (x2 : Int32) (x3 : Int32) (x4 : Value) (st : List Value) (h : AH) (Q : Option Value → AH → Prop), WP 61 17 [.ref x0, .int x1, .int x2, .int x3, x4] (st) h Q ↔ WP 61 18 [.ref x0, .int x1, .int x2, .int x3, x4] (.int x3 :: st) h Q) ∧
  (∀ (x0 : Nat) (x1 : Int32) (x2 : Int32) (x3 : Int32) (x4 : Value) (st : List Value) (h : AH) (Q : Option Value → AH → Prop), WP 61 18 [.ref x0, .int x1, .int x2, .int x3, x4] (st) h Q ↔ WP 61 19 [.ref x0, .int x1, .int x2, .int x3, x4] (.int x1 :: st) h Q) ∧
  (∀ (x0 : Nat) (x1 : Int32) (x2 : Int32) (x3 : Int32) (x4 : Value) (st : List Value) (h : AH) (Q : Option Value → AH → Prop), WP 61 19 [.ref x0, .int x1, .int x2, .int x3, x4] (st) h Q ↔ WP 61 20 [.ref x0, .int x1, .int x2, .int x3, x4] (.int x2 :: st) h Q) ∧
  (∀ (x0 : Nat) (x1 : Int32) (x2 : Int32) (x3 : Int32) (x4 : Value) (y3 : Nat) (y2 : Int32) (y1 : Int32) (y0 : Int32) (h : AH) (Q : Option Value → AH → Prop) (ht : hT h y3 = 1), WP 61 20 [.ref x0, .int x1, .int x2, .int x3, x4] ([.int y0, .int y1, .int y2, .ref y3]) h Q ↔ WPM 7 [.ref y3, .int y2, .int y1, .int y0] h (fun r h' => WP 61 23 [.ref x0, .int x1, .int x2, .int x3, x4] (r.toList ++ []) h' Q)) ∧
  (∀ (x0 : Nat) (x1 : Int32) (x2 : Int32) (x3 : Int32) (x4 : Value) (y0 : Int32) (st : List Value) (h : AH) (Q : Option Value → AH → Prop), WP 61 23 [.ref x0, .int x1, .int x2, .int x3, x4] (.int y0 :: st) h Q ↔ WP 61 25 [.ref x0, .int x1, .int x2, .int x3, .int y0] (st) h Q) ∧
  (∀ (x0 : Nat) (x1 : Int32) (x2 : Int32) (x3 : Int32) (x4 : Int32) (st : List Value) (h : AH) (Q : Option Value → AH → Prop), WP 61 25 [.ref x0, .int x1, .int x2, .int x3, .int x4] (st) h Q ↔ WP 61 27 [.ref x0, .int x1, .int x2, .int x3, .int x4] (.int x4 :: st) h Q) ∧
  (∀ (x0 : Nat) (x1 : Int32) (x2 : Int32) (x3 : Int32) (x4 : Int32) (y0 : Int32) (st : List Value) (h : AH) (Q : Option Value → AH → Prop), WP 61 27 [.ref x0, .int x1, .int x2, .int x3, .int x4] (.int y0 :: st) h Q ↔ ((y0 < 0 → WP 61 83 [.ref x0, .int x1, .int x2, .int x3, .int x4] (st) h Q) ∧ (¬ y0 < 0 → WP 61 30 [.ref x0, .int x1, .int x2, .int x3, .int x4] (st) h Q))) ∧
  (∀ (x0 : Nat) (x1 : Int32) (x2 : Int32) (x3 : Int32) (x4 : Int32) (st : List Value) (h : AH) (Q : Option Value → AH → Prop), WP 61 30 [.ref x0, .int x1, .int x2, .int x3, .int x4] (st) h Q ↔ WP 61 31 [.ref x0, .int x1, .int x2, .int x3, .int x4] (.ref x0 :: st) h Q) ∧
  (∀ (x0 : Nat) (x1 : Int32) (x2 : Int32) (x3 : Int32) (x4 : Int32) (y0 : Nat) (st : List Value) (h : AH) (Q : Option Value → AH → Prop) (ht : hT h y0 = 7), WP 61 31 [.ref x0, .int x1, .int x2, .int x3, .int x4] (.ref y0 :: st) h Q ↔ WP 61 34 [.ref x0, .int x1, .int x2, .int x3, .int x4] (.ref (hR h y0 2) :: st) h Q) ∧
  (∀ (x0 : Nat) (x1 : Int32) (x2 : Int32) (x3 : Int32) (x4 : Int32) (st : List Value) (h : AH) (Q : Option Value → AH → Prop), WP 61 34 [.ref x0, .int x1, .int x2, .int x3, .int x4] (st) h Q ↔ WP 61 36 [.ref x0, .int x1, .int x2, .int x3, .int x4] (.int x4 :: st) h Q) ∧
  (∀ (x0 : Nat) (x1 : Int32) (x2 : Int32) (x3 : Int32) (x4 : Int32) (y0 : Int32) (y1 : Nat) (st : List Value) (h : AH) (Q : Option Value → AH → Prop) (ht : hT h y1 = 101 ∨ hT h y1 = 102) (hi : inb y0 (hL h y1) = true), WP 61 36 [.ref x0, .int x1, .int x2, .int x3, .int x4] (.int y0 :: .ref y1 :: st) h Q ↔ WP 61 37 [.ref x0, .int x1, .int x2, .int x3, .int x4] (.int (hI h y1 y0.toNatClampNeg) :: st) h Q) ∧
  (∀ (x0 : Nat) (x1 : Int32) (x2 : Int32) (x3 : Int32) (x4 : Int32) (st : List Value) (h : AH) (Q : Option Value → AH → Prop), WP 61 37 [.ref x0, .int x1, .int x2, .int x3, .int x4] (st) h Q ↔ WP 61 39 [.ref x0, .int x1, .int x2, .int x3, .int x4] (.int (99) :: st) h Q) ∧
  (∀ (x0 : Nat) (x1 : Int32) (x2 : Int32) (x3 : Int32) (x4 : Int32) (y0 : Int32) (y1 : Int32) (st : List Value) (h : AH) (Q : Option Value → AH → Prop), WP 61 39 [.ref x0, .int x1, .int x2, .int x3, .int x4] (.int y0 :: .int y1 :: st) h Q ↔ ((¬ y1 = y0 → WP 61 83 [.ref x0, .int x1, .int x2, .int x3, .int x4] (st) h Q) ∧ (y1 = y0 → WP 61 42 [.ref x0, .int x1, .int x2, .int x3, .int x4] (st) h Q))) ∧
  (∀ (x0 : Nat) (x1 : Int32) (x2 : Int32) (x3 : Int32) (x4 : Int32) (st : List Value) (h : AH) (Q : Option Value → AH → Prop), WP 61 42 [.ref x0, .int x1, .int x2, .int x3, .int x4] (st) h Q ↔ WP 61 43 [.ref x0, .int x1, .int x2, .int x3, .int x4] (.ref x0 :: st) h Q) ∧
  (∀ (x0 : Nat) (x1 : Int32) (x2 : Int32) (x3 : Int32) (x4 : Int32) (y0 : Nat) (st : List Value) (h : AH) (Q : Option Value → AH → Prop) (ht : hT h y0 = 7), WP 61 43 [.ref x0, .int x1, .int x2, .int x3, .int x4] (.ref y0 :: st) h Q ↔ WP 61 46 [.ref x0, .int x1, .int x2, .int x3, .int x4] (.int (hI h y0 4) :: st) h Q) ∧
  (∀ (x0 : Nat) (x1 : Int32) (x2 : Int32) (x3 : Int32) (x4 : Int32) (st : List Value) (h : AH) (Q : Option Value → AH → Prop), WP 61 46 [.ref x0, .int x1, .int x2, .int x3, .int x4] (st) h Q ↔ WP 61 47 [.ref x0, .int x1, .int x2, .int x3, .int x4] (.ref x0 :: st) h Q) ∧
  (∀ (x0 : Nat) (x1 : Int32) (x2 : Int32) (x3 : Int32) (x4 : Int32) (y0 : Nat) (st : List Value) (h : AH) (Q : Option Value → AH → Prop) (ht : hT h y0 = 7), WP 61 47 [.ref x0, .int x1, .int x2, .int x3, .int x4] (.ref y0 :: st) h Q ↔ WP 61 50 [.ref x0, .int x1, .int x2, .int x3, .int x4] (.int (hI h y0 5) :: st) h Q) ∧
  (∀ (x0 : Nat) (x1 : Int32) (x2 : Int32) (x3 : Int32) (x4 : Int32) (y0 : Int32) (y1 : Int32) (st : List Value) (h : AH) (Q : Option Value → AH → Prop), WP 61 50 [.ref x0, .int x1, .int x2, .int x3, .int x4] (.int y0 :: .int y1 :: st) h Q ↔ ((y0 ≤ y1 → WP 61 83 [.ref x0, .int x1, .int x2, .int x3, .int x4] (st) h Q) ∧ (¬ y0 ≤ y1 → WP 61 53 [.ref x0, .int x1, .int x2, .int x3, .int x4] (st) h Q))) ∧
  (∀ (x0 : Nat) (x1 : Int32) (x2 : Int32) (x3 : Int32) (x4 : Int32) (st : List Value) (h : AH) (Q : Option Value → AH → Prop), WP 61 53 [.ref x0, .int x1, .int x2, .int x3, .int x4] (st) h Q ↔ WP 61 54 [.ref x0, .int x1, .int x2, .int x3, .int x4] (.ref x0 :: st) h Q) ∧
  (∀ (x0 : Nat) (x1 : Int32) (x2 : Int32) (x3 : Int32) (x4 : Int32) (y0 : Nat) (st : List Value) (h : AH) (Q : Option Value → AH → Prop) (ht : hT h y0 = 7), WP 61 54 [.ref x0, .int x1, .int x2, .int x3, .int x4] (.ref y0 :: st) h Q ↔ WP 61 57 [.ref x0, .int x1, .int x2, .int x3, .int x4] (.ref (hR h y0 2) :: st) h Q) ∧
  (∀ (x0 : Nat) (x1 : Int32) (x2 : Int32) (x3 : Int32) (x4 : Int32) (st : List Value) (h : AH) (Q : Option Value → AH → Prop), WP 61 57 [.ref x0, .int x1, .int x2, .int x3, .int x4] (st) h Q ↔ WP 61 59 [.ref x0, .int x1, .int x2, .int x3, .int x4] (.int x4 :: st) h Q) ∧
  (∀ (x0 : Nat) (x1 : Int32) (x2 : Int32) (x3 : Int32) (x4 : Int32) (st : List Value) (h : AH) (Q : Option Value → AH → Prop), WP 61 59 [.ref x0, .int x1, .int x2, .int x3, .int x4] (st) h Q ↔ WP 61 60 [.ref x0, .int x1, .int x2, .int x3, .int x4] (.int x2 :: st) h Q) ∧
  (∀ (x0 : Nat) (x1 : Int32) (x2 : Int32) (x3 : Int32) (x4 : Int32) (y0 : Int32) (st : List Value) (h : AH) (Q : Option Value → AH → Prop), WP 61 60 [.ref x0, .int x1, .int x2, .int x3, .int x4] (.int y0 :: st) h Q ↔ WP 61 61 [.ref x0, .int x1, .int x2, .int x3, .int x4] (.int y0.toInt8.toInt32 :: st) h Q) ∧
  (∀ (x0 : Nat) (x1 : Int32) (x2 : Int32) (x3 : Int32) (x4 : Int32) (y0 : Int32) (y1 : Int32) (y2 : Nat) (st : List Value) (h : AH) (Q : Option Value → AH → Prop) (ht : hT h y2 = 101) (hi : inb y1 (hL h y2) = true), WP 61 61 [.ref x0, .int x1, .int x2, .int x3, .int x4] (.int y0 :: .int y1 :: .ref y2 :: st) h Q ↔ WP 61 62 [.ref x0, .int x1, .int x2, .int x3, .int x4] (st) (sI h y2 y1.toNatClampNeg y0.toInt8.toInt32) Q) ∧
  (∀ (x0 : Nat) (x1 : Int32) (x2 : Int32) (x3 : Int32) (x4 : Int32) (y0 : Int32) (y1 : Int32) (y2 : Nat) (st : List Value) (h : AH) (Q : Option Value → AH → Prop) (ht : hT h y2 = 102) (hi : inb y1 (hL h y2) = true), WP 61 61 [.ref x0, .int x1, .int x2, .int x3, .int x4] (.int y0 :: .int y1 :: .ref y2 :: st) h Q ↔ WP 61 62 [.ref x0, .int x1, .int x2, .int x3, .int x4] (st) (sI h y2 y1.toNatClampNeg (y0 &&& 1)) Q) ∧
  (∀ (x0 : Nat) (x1 : Int32) (x2 : Int32) (x3 : Int32) (x4 : Int32) (st : List Value) (h : AH) (Q : Option Value → AH → Prop), WP 61 62 [.ref x0, .int x1, .int x2, .int x3, .int x4] (st) h Q ↔ WP 61 63 [.ref x0, .int x1, .int x2, .int x3, .int x4] (.ref x0 :: st) h Q) ∧
  (∀ (x0 : Nat) (x1 : Int32) (x2 : Int32) (x3 : Int32) (x4 : Int32) (y0 : Nat) (st : List Value) (h : AH) (Q : Option Value → AH → Prop) (ht : hT h y0 = 7), WP 61 63 [.ref x0, .int x1, .int x2, .int x3, .int x4] (.ref y0 :: st) h Q ↔ WP 61 66 [.ref x0, .int x1, .int x2, .int x3, .int x4] (.ref (hR h y0 3) :: st) h Q) ∧
  (∀ (x0 : Nat) (x1 : Int32) (x2 : Int32) (x3 : Int32) (x4 : Int32) (st : List Value) (h : AH) (Q : Option Value → AH → Prop), WP 61 66 [.ref x0, .int x1, .int x2, .int x3, .int x4] (st) h Q ↔ WP 61 67 [.ref x0, .int x1, .int x2, .int x3, .int x4] (.ref x0 :: st) h Q) ∧
  (∀ (x0 : Nat) (x1 : Int32) (x2 : Int32) (x3 : Int32) (x4 : Int32) (y0 : Nat) (st : List Value) (h : AH) (Q : Option Value → AH → Prop) (ht : hT h y0 = 7), WP 61 67 [.ref x0, .int x1, .int x2, .int x3, .int x4] (.ref y0 :: st) h Q ↔ WP 61 70 [.ref x0, .int x1, .int x2, .int x3, .int x4] (.int (hI h y0 4) :: st) h Q) ∧
  (∀ (x0 : Nat) (x1 : Int32) (x2 : Int32) (x3 : Int32) (x4 : Int32) (st : List Value) (h : AH) (Q : Option Value → AH → Prop), WP 61 70 [.ref x0, .int x1, .int x2, .int x3, .int x4] (st) h Q ↔ WP 61 72 [.ref x0, .int x1, .int x2, .int x3, .int x4] (.int x4 :: st) h Q) ∧
  (∀ (x0 : Nat) (x1 : Int32) (x2 : Int32) (x3 : Int32) (x4 : Int32) (y0 : Int32) (y1 : Int32) (y2 : Nat) (st : List Value) (h : AH) (Q : Option Value → AH → Prop) (ht : hT h y2 = 100) (hi : inb y1 (hL h y2) = true), WP 61 72 [.ref x0, .int x1, .int x2, .int x3, .int x4] (.int y0 :: .int y1 :: .ref y2 :: st) h Q ↔ WP 61 73 [.ref x0, .int x1, .int x2, .int x3, .int x4] (st) (sI h y2 y1.toNatClampNeg y0) Q) ∧
  (∀ (x0 : Nat) (x1 : Int32) (x2 : Int32) (x3 : Int32) (x4 : Int32) (st : List Value) (h : AH) (Q : Option Value → AH → Prop), WP 61 73 [.ref x0, .int x1, .int x2, .int x3, .int x4] (st) h Q ↔ WP 61 74 [.ref x0, .int x1, .int x2, .int x3, .int x4] (.ref x0 :: st) h Q) :=
  ⟨fun _ _ _ _ _ _ => WP_s (show ct 61 0 = some (.iconst 0, 0, []) by decide +kernel) rfl,
  fun _ _ _ _ _ _ _ => WP_s (show ct 61 1 = some (.istore_n 3, 0, []) by decide +kernel) rfl,
  fun _ _ _ _ _ _ _ _ => WP_s (show ct 61 3 = some (.aload_n 0, 0, []) by decide +kernel) rfl,
  fun _ _ _ _ _ _ _ _ _ ht => WH_gR (show ct 61 4 = some (.getfield 27, 1, [6, 1, 2, 429]) by decide +kernel) ht,
  fun _ _ _ _ _ _ _ _ _ ht => WH_gI (show ct 61 7 = some (.getfield 111, 1, [0, 0, 0, 354]) by decide +kernel) (by decide) ht,
  fun _ _ _ _ _ _ _ _ _ _ => WI_ge (show ct 61 10 = some (.if_icmp .ge 79, 0, [89]) by decide +kernel) (by decide),
  fun _ _ _ _ _ _ _ _ => WP_s (show ct 61 13 = some (.aload_n 0, 0, []) by decide +kernel) rfl,
  fun _ _ _ _ _ _ _ _ _ ht => WH_gR (show ct 61 14 = some (.getfield 27, 1, [6, 1, 2, 429]) by decide +kernel) ht,
  fun _ _ _ _ _ _ _ _ => WP_s (show ct 61 17 = some (.iload_n 3, 0, []) by decide +kernel) rfl,
  fun _ _ _ _ _ _ _ _ => WP_s (show ct 61 18 = some (.iload_n 1, 0, []) by decide +kernel) rfl,
  fun _ _ _ _ _ _ _ _ => WP_s (show ct 61 19 = some (.iload_n 2, 0, []) by decide +kernel) rfl,
  fun _ _ _ _ _ _ _ _ _ _ _ ht => WC_1 (show ct 61 20 = some (.invokevirtual 114, 3, [7, 4, 1, 1, 0, 825, 826, 827]) by decide +kernel) (Nat.le_of_ble_eq_true rfl) (Nat.le_of_ble_eq_true rfl) rfl rfl ht,
  fun _ _ _ _ _ _ _ _ _ => WP_s (show ct 61 23 = some (.istore 4, 0, []) by decide +kernel) rfl,
  fun _ _ _ _ _ _ _ _ => WP_s (show ct 61 25 = some (.iload 4, 0, []) by decide +kernel) rfl,
  fun _ _ _ _ _ _ _ _ _ => WZ_lt (show ct 61 27 = some (.ifCond .lt 56, 0, [83]) by decide +kernel) (by decide),
  fun _ _ _ _ _ _ _ _ => WP_s (show ct 61 30 = some (.aload_n 0, 0, []) by decide +kernel) rfl,
  fun _ _ _ _ _ _ _ _ _ ht => WH_gR (show ct 61 31 = some (.getfield 9, 1, [6, 2, 2, 430]) by decide +kernel) ht,
  fun _ _ _ _ _ _ _ _ => WP_s (show ct 61 34 = some (.iload 4, 0, []) by decide +kernel) rfl,
  fun _ _ _ _ _ _ _ _ _ _ ht hi => WH_bald (show ct 61 36 = some (.baload, 1, []) by decide +kernel) ht hi,
  fun _ _ _ _ _ _ _ _ => WP_s (show ct 61 37 = some (.bipush 99, 0, []) by decide +kernel) rfl,
  fun _ _ _ _ _ _ _ _ _ _ => WI_ne (show ct 61 39 = some (.if_icmp .ne 44, 0, [83]) by decide +kernel) (by decide),
  fun _ _ _ _ _ _ _ _ => WP_s (show ct 61 42 = some (.aload_n 0, 0, []) by decide +kernel) rfl,
  fun _ _ _ _ _ _ _ _ _ ht => WH_gI (show ct 61 43 = some (.getfield 104, 1, [6, 4, 0, 432]) by decide +kernel) (by decide) ht,
  fun _ _ _ _ _ _ _ _ => WP_s (show ct 61 46 = some (.aload_n 0, 0, []) by decide +kernel) rfl,
  fun _ _ _ _ _ _ _ _ _ ht => WH_gI (show ct 61 47 = some (.getfield 54, 1, [6, 5, 0, 433]) by decide +kernel) (by decide) ht,
  fun _ _ _ _ _ _ _ _ _ _ => WI_ge (show ct 61 50 = some (.if_icmp .ge 33, 0, [83]) by decide +kernel) (by decide),
  fun _ _ _ _ _ _ _ _ => WP_s (show ct 61 53 = some (.aload_n 0, 0, []) by decide +kernel) rfl,
  fun _ _ _ _ _ _ _ _ _ ht => WH_gR (show ct 61 54 = some (.getfield 9, 1, [6, 2, 2, 430]) by decide +kernel) ht,
  fun _ _ _ _ _ _ _ _ => WP_s (show ct 61 57 = some (.iload 4, 0, []) by decide +kernel) rfl,
  fun _ _ _ _ _ _ _ _ => WP_s (show ct 61 59 = some (.iload_n 2, 0, []) by decide +kernel) rfl,
  fun _ _ _ _ _ _ _ _ _ => WP_s (show ct 61 60 = some (.i2b, 0, []) by decide +kernel) rfl,
  fun _ _ _ _ _ _ _ _ _ _ _ ht hi => WH_bast (show ct 61 61 = some (.bastore, 1, []) by decide +kernel) ht hi,
  fun _ _ _ _ _ _ _ _ _ _ _ ht hi => WH_zast (show ct 61 61 = some (.bastore, 1, []) by decide +kernel) ht hi,
  fun _ _ _ _ _ _ _ _ => WP_s (show ct 61 62 = some (.aload_n 0, 0, []) by decide +kernel) rfl,
  fun _ _ _ _ _ _ _ _ _ ht => WH_gR (show ct 61 63 = some (.getfield 15, 1, [6, 3, 2, 431]) by decide +kernel) ht,
  fun _ _ _ _ _ _ _ _ => WP_s (show ct 61 66 = some (.aload_n 0, 0, []) by decide +kernel) rfl,
  fun _ _ _ _ _ _ _ _ _ ht => WH_gI (show ct 61 67 = some (.getfield 104, 1, [6, 4, 0, 432]) by decide +kernel) (by decide) ht,
  fun _ _ _ _ _ _ _ _ => WP_s (show ct 61 70 = some (.iload 4, 0, []) by decide +kernel) rfl,
  fun _ _ _ _ _ _ _ _ _ _ _ ht hi => WH_iast (show ct 61 72 = some (.iastore, 1, []) by decide +kernel) ht hi,
  fun _ _ _ _ _ _ _ _ => WP_s (show ct 61 73 = some (.aload_n 0, 0, []) by decide +kernel) rfl⟩
set_option maxRecDepth 10000 in
theorem w61_b : (∀ (x0 : Nat) (x1 : Int32) (x2 : Int32) (x3 : Int32) (x4 : Int32) (y0 : Nat) (st : List Value) (h : AH) (Q : Option Value → AH → Prop), WP 61 74 [.ref x0, .int x1, .int x2, .int x3, .int x4] (.ref y0 :: st) h Q ↔ WP 61 75 [.ref x0, .int x1, .int x2, .int x3, .int x4] (.ref y0 :: .ref y0 :: st) h Q) ∧
  (∀ (x0 : Nat) (x1 : Int32) (x2 : Int32) (x3 : Int32) (x4 : Int32) (y0 : Nat) (st : List Value) (h : AH) (Q : Option Value → AH → Prop) (ht : hT h y0 = 7), WP 61 75 [.ref x0, .int x1, .int x2, .int x3, .int x4] (.ref y0 :: st) h Q ↔ WP 61 78 [.ref x0, .int x1, .int x2, .int x3, .int x4] (.int (hI h y0 4) :: st) h Q) ∧
  (∀ (x0 : Nat) (x1 : Int32) (x2 : Int32) (x3 : Int32) (x4 : Int32) (st : List Value) (h : AH) (Q : Option Value → AH → Prop), WP 61 78 [.ref x0, .int x1, .int x2, .int x3, .int x4] (st) h Q ↔ WP 61 79 [.ref x0, .int x1, .int x2, .int x3, .int x4] (.int (1) :: st) h Q) ∧
  (∀ (x0 : Nat) (x1 : Int32) (x2 : Int32) (x3 : Int32) (x4 : Int32) (y0 : Int32) (y1 : Int32) (st : List Value) (h : AH) (Q : Option Value → AH → Prop), WP 61 79 [.ref x0, .int x1, .int x2, .int x3, .int x4] (.int y0 :: .int y1 :: st) h Q ↔ WP 61 80 [.ref x0, .int x1, .int x2, .int x3, .int x4] (.int (y1 + y0) :: st) h Q) ∧
  (∀ (x0 : Nat) (x1 : Int32) (x2 : Int32) (x3 : Int32) (x4 : Int32) (y0 : Int32) (y1 : Nat) (st : List Value) (h : AH) (Q : Option Value → AH → Prop) (ht : hT h y1 = 7), WP 61 80 [.ref x0, .int x1, .int x2, .int x3, .int x4] (.int y0 :: .ref y1 :: st) h Q ↔ WP 61 83 [.ref x0, .int x1, .int x2, .int x3, .int x4] (st) (sI h y1 4 y0) Q) ∧
  (∀ (x0 : Nat) (x1 : Int32) (x2 : Int32) (x3 : Int32) (x4 : Int32) (st : List Value) (h : AH) (Q : Option Value → AH → Prop), WP 61 83 [.ref x0, .int x1, .int x2, .int x3, .int x4] (st) h Q ↔ WP 61 86 [.ref x0, .int x1, .int x2, .int (x3 + (1)), .int x4] (st) h Q) ∧
  (∀ (x0 : Nat) (x1 : Int32) (x2 : Int32) (x3 : Int32) (x4 : Int32) (st : List Value) (h : AH) (Q : Option Value → AH → Prop), WP 61 86 [.ref x0, .int x1, .int x2, .int x3, .int x4] (st) h Q ↔ WP 61 2 [.ref x0, .int x1, .int x2, .int x3, .int x4] (st) h Q) ∧
  (∀ (x0 : Nat) (x1 : Int32) (x2 : Int32) (x3 : Int32) (x4 : Value) (h : AH) (Q : Option Value → AH → Prop), WP 61 89 [.ref x0, .int x1, .int x2, .int x3, x4] ([]) h Q ↔ Q none h) :=
  ⟨fun _ _ _ _ _ _ _ _ _ => WP_s (show ct 61 74 = some (.dup, 0, []) by decide +kernel) rfl,
  fun _ _ _ _ _ _ _ _ _ ht => WH_gI (show ct 61 75 = some (.getfield 104, 1, [6, 4, 0, 432]) by decide +kernel) (by decide) ht,
  fun _ _ _ _ _ _ _ _ => WP_s (show ct 61 78 = some (.iconst 1, 0, []) by decide +kernel) rfl,
  fun _ _ _ _ _ _ _ _ _ _ => WP_s (show ct 61 79 = some (.iadd, 0, []) by decide +kernel) rfl,
  fun _ _ _ _ _ _ _ _ _ _ ht => WH_pI (show ct 61 80 = some (.putfield 104, 1, [6, 4, 0, 0, 432]) by decide +kernel) ht,
  fun _ _ _ _ _ _ _ _ => WP_s (show ct 61 83 = some (.iinc 3 1, 0, []) by decide +kernel) rfl,
  fun _ _ _ _ _ _ _ _ => WP_s (show ct 61 86 = some (.goto (-84), 0, [2]) by decide +kernel) rfl,
  fun _ _ _ _ _ _ _ => WR_v (show ct 61 89 = some (.return_, 2, [0]) by decide +kernel)⟩
/-- all of 61 -/
def w61_n : Nat := 2

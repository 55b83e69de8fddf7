/-! 9: FewBowls$Cheapest.<init>(LFewBowls$Desk;LFewBowls$Acts;)V; loop heads [] -/
set_option maxRecDepth 10000 in
theorem w9 : (∀ (x0 : Nat) (x1 : Nat) (x2 : Nat) (st : List Value) (h : AH) (Q : Option Value → AH → Prop), WP 9 0 [.ref x0, .ref x1, .ref x2] (st) h Q ↔ WP 9 1 [.ref x0, .ref x1, .ref x2] (.ref x0 :: st) h Q) ∧
  (∀ (x0 : Nat) (x1 : Nat) (x2 : Nat) (y0 : Nat) (h : AH) (Q : Option Value → AH → Prop) (h0 : y0 ≠ 0), WP 9 1 [.ref x0, .ref x1, .ref x2] ([.ref y0]) h Q ↔ WP 9 4 [.ref x0, .ref x1, .ref x2] ([]) h Q) ∧
  (∀ (x0 : Nat) (x1 : Nat) (x2 : Nat) (st : List Value) (h : AH) (Q : Option Value → AH → Prop), WP 9 4 [.ref x0, .ref x1, .ref x2] (st) h Q ↔ WP 9 5 [.ref x0, .ref x1, .ref x2] (.ref x0 :: st) h Q) ∧
  (∀ (x0 : Nat) (x1 : Nat) (x2 : Nat) (st : List Value) (h : AH) (Q : Option Value → AH → Prop), WP 9 5 [.ref x0, .ref x1, .ref x2] (st) h Q ↔ WP 9 7 [.ref x0, .ref x1, .ref x2] (.int (100) :: st) h Q) ∧
  (∀ (x0 : Nat) (x1 : Nat) (x2 : Nat) (y0 : Int32) (st : List Value) (h : AH) (Q : Option Value → AH → Prop) (h0 : 0 ≤ y0) (h1 : y0.toNatClampNeg ≤ 1048576), WP 9 7 [.ref x0, .ref x1, .ref x2] (.int y0 :: st) h Q ↔ WP 9 9 [.ref x0, .ref x1, .ref x2] (.ref (hN h) :: st) (nw h 100 y0.toNatClampNeg y0.toNatClampNeg) Q) ∧
  (∀ (x0 : Nat) (x1 : Nat) (x2 : Nat) (y0 : Nat) (y1 : Nat) (st : List Value) (h : AH) (Q : Option Value → AH → Prop) (ht : hT h y1 = 2), WP 9 9 [.ref x0, .ref x1, .ref x2] (.ref y0 :: .ref y1 :: st) h Q ↔ WP 9 12 [.ref x0, .ref x1, .ref x2] (st) (sR h y1 2 y0) Q) ∧
  (∀ (x0 : Nat) (x1 : Nat) (x2 : Nat) (st : List Value) (h : AH) (Q : Option Value → AH → Prop), WP 9 12 [.ref x0, .ref x1, .ref x2] (st) h Q ↔ WP 9 13 [.ref x0, .ref x1, .ref x2] (.ref x0 :: st) h Q) ∧
  (∀ (x0 : Nat) (x1 : Nat) (x2 : Nat) (st : List Value) (h : AH) (Q : Option Value → AH → Prop), WP 9 13 [.ref x0, .ref x1, .ref x2] (st) h Q ↔ WP 9 14 [.ref x0, .ref x1, .ref x2] (.int (0) :: st) h Q) ∧
  (∀ (x0 : Nat) (x1 : Nat) (x2 : Nat) (y0 : Int32) (st : List Value) (h : AH) (Q : Option Value → AH → Prop) (h0 : 0 ≤ y0) (h1 : y0.toNatClampNeg ≤ 1048576), WP 9 14 [.ref x0, .ref x1, .ref x2] (.int y0 :: st) h Q ↔ WP 9 16 [.ref x0, .ref x1, .ref x2] (.ref (hN h) :: st) (nw h 100 y0.toNatClampNeg y0.toNatClampNeg) Q) ∧
  (∀ (x0 : Nat) (x1 : Nat) (x2 : Nat) (y0 : Nat) (y1 : Nat) (st : List Value) (h : AH) (Q : Option Value → AH → Prop) (ht : hT h y1 = 2), WP 9 16 [.ref x0, .ref x1, .ref x2] (.ref y0 :: .ref y1 :: st) h Q ↔ WP 9 19 [.ref x0, .ref x1, .ref x2] (st) (sR h y1 4 y0) Q) ∧
  (∀ (x0 : Nat) (x1 : Nat) (x2 : Nat) (st : List Value) (h : AH) (Q : Option Value → AH → Prop), WP 9 19 [.ref x0, .ref x1, .ref x2] (st) h Q ↔ WP 9 20 [.ref x0, .ref x1, .ref x2] (.ref x0 :: st) h Q) ∧
  (∀ (x0 : Nat) (x1 : Nat) (x2 : Nat) (st : List Value) (h : AH) (Q : Option Value → AH → Prop), WP 9 20 [.ref x0, .ref x1, .ref x2] (st) h Q ↔ WP 9 21 [.ref x0, .ref x1, .ref x2] (.int (0) :: st) h Q) ∧
  (∀ (x0 : Nat) (x1 : Nat) (x2 : Nat) (y0 : Int32) (st : List Value) (h : AH) (Q : Option Value → AH → Prop) (h0 : 0 ≤ y0) (h1 : y0.toNatClampNeg ≤ 1048576), WP 9 21 [.ref x0, .ref x1, .ref x2] (.int y0 :: st) h Q ↔ WP 9 23 [.ref x0, .ref x1, .ref x2] (.ref (hN h) :: st) (nw h 100 y0.toNatClampNeg y0.toNatClampNeg) Q) ∧
  (∀ (x0 : Nat) (x1 : Nat) (x2 : Nat) (y0 : Nat) (y1 : Nat) (st : List Value) (h : AH) (Q : Option Value → AH → Prop) (ht : hT h y1 = 2), WP 9 23 [.ref x0, .ref x1, .ref x2] (.ref y0 :: .ref y1 :: st) h Q ↔ WP 9 26 [.ref x0, .ref x1, .ref x2] (st) (sR h y1 5 y0) Q) ∧
  (∀ (x0 : Nat) (x1 : Nat) (x2 : Nat) (st : List Value) (h : AH) (Q : Option Value → AH → Prop), WP 9 26 [.ref x0, .ref x1, .ref x2] (st) h Q ↔ WP 9 27 [.ref x0, .ref x1, .ref x2] (.ref x0 :: st) h Q) ∧
  (∀ (x0 : Nat) (x1 : Nat) (x2 : Nat) (st : List Value) (h : AH) (Q : Option Value → AH → Prop), WP 9 27 [.ref x0, .ref x1, .ref x2] (st) h Q ↔ WP 9 28 [.ref x0, .ref x1, .ref x2] (.int (0) :: st) h Q) ∧
  (∀ (x0 : Nat) (x1 : Nat) (x2 : Nat) (y0 : Int32) (st : List Value) (h : AH) (Q : Option Value → AH → Prop) (h0 : 0 ≤ y0) (h1 : y0.toNatClampNeg ≤ 1048576), WP 9 28 [.ref x0, .ref x1, .ref x2] (.int y0 :: st) h Q ↔ WP 9 30 [.ref x0, .ref x1, .ref x2] (.ref (hN h) :: st) (nw h 100 y0.toNatClampNeg y0.toNatClampNeg) Q) ∧
  (∀ (x0 : Nat) (x1 : Nat) (x2 : Nat) (y0 : Nat) (y1 : Nat) (st : List Value) (h : AH) (Q : Option Value → AH → Prop) (ht : hT h y1 = 2), WP 9 30 [.ref x0, .ref x1, .ref x2] (.ref y0 :: .ref y1 :: st) h Q ↔ WP 9 33 [.ref x0, .ref x1, .ref x2] (st) (sR h y1 6 y0) Q) ∧
  (∀ (x0 : Nat) (x1 : Nat) (x2 : Nat) (st : List Value) (h : AH) (Q : Option Value → AH → Prop), WP 9 33 [.ref x0, .ref x1, .ref x2] (st) h Q ↔ WP 9 34 [.ref x0, .ref x1, .ref x2] (.ref x0 :: st) h Q) ∧
  (∀ (x0 : Nat) (x1 : Nat) (x2 : Nat) (st : List Value) (h : AH) (Q : Option Value → AH → Prop), WP 9 34 [.ref x0, .ref x1, .ref x2] (st) h Q ↔ WP 9 35 [.ref x0, .ref x1, .ref x2] (.ref x1 :: st) h Q) ∧
  (∀ (x0 : Nat) (x1 : Nat) (x2 : Nat) (y0 : Nat) (y1 : Nat) (st : List Value) (h : AH) (Q : Option Value → AH → Prop) (ht : hT h y1 = 2), WP 9 35 [.ref x0, .ref x1, .ref x2] (.ref y0 :: .ref y1 :: st) h Q ↔ WP 9 38 [.ref x0, .ref x1, .ref x2] (st) (sR h y1 0 y0) Q) ∧
  (∀ (x0 : Nat) (x1 : Nat) (x2 : Nat) (st : List Value) (h : AH) (Q : Option Value → AH → Prop), WP 9 38 [.ref x0, .ref x1, .ref x2] (st) h Q ↔ WP 9 39 [.ref x0, .ref x1, .ref x2] (.ref x0 :: st) h Q) ∧
  (∀ (x0 : Nat) (x1 : Nat) (x2 : Nat) (st : List Value) (h : AH) (Q : Option Value → AH → Prop), WP 9 39 [.ref x0, .ref x1, .ref x2] (st) h Q ↔ WP 9 40 [.ref x0, .ref x1, .ref x2] (.ref x2 :: st) h Q) ∧
  (∀ (x0 : Nat) (x1 : Nat) (x2 : Nat) (y0 : Nat) (y1 : Nat) (st : List Value) (h : AH) (Q : Option Value → AH → Prop) (ht : hT h y1 = 2), WP 9 40 [.ref x0, .ref x1, .ref x2] (.ref y0 :: .ref y1 :: st) h Q ↔ WP 9 43 [.ref x0, .ref x1, .ref x2] (st) (sR h y1 1 y0) Q) ∧
  (∀ (x0 : Nat) (x1 : Nat) (x2 : Nat) (h : AH) (Q : Option Value → AH → Prop), WP 9 43 [.ref x0, .ref x1, .ref x2] ([]) h Q ↔ Q none h) :=
  ⟨fun _ _ _ _ _ _ => WP_s (show ct 9 0 = some (.aload_n 0, 0, []) by decide +kernel) rfl,
  fun _ _ _ _ _ _ h0 => WH_obj (show ct 9 1 = some (.invokespecial 3, 1, [495, 124, 125]) by decide +kernel) h0 (Nat.le_of_ble_eq_true rfl),
  fun _ _ _ _ _ _ => WP_s (show ct 9 4 = some (.aload_n 0, 0, []) by decide +kernel) rfl,
  fun _ _ _ _ _ _ => WP_s (show ct 9 5 = some (.bipush 100, 0, []) by decide +kernel) rfl,
  fun _ _ _ _ _ _ _ h0 h1 => WH_newa (show ct 9 7 = some (.newarray .int, 1, [100, 209]) by decide +kernel) (by decide) h0 h1,
  fun _ _ _ _ _ _ _ _ ht => WH_pR (show ct 9 9 = some (.putfield 11, 1, [1, 2, 2, 1, 498]) by decide +kernel) ht,
  fun _ _ _ _ _ _ => WP_s (show ct 9 12 = some (.aload_n 0, 0, []) by decide +kernel) rfl,
  fun _ _ _ _ _ _ => WP_s (show ct 9 13 = some (.iconst 0, 0, []) by decide +kernel) rfl,
  fun _ _ _ _ _ _ _ h0 h1 => WH_newa (show ct 9 14 = some (.newarray .int, 1, [100, 209]) by decide +kernel) (by decide) h0 h1,
  fun _ _ _ _ _ _ _ _ ht => WH_pR (show ct 9 16 = some (.putfield 15, 1, [1, 4, 2, 0, 500]) by decide +kernel) ht,
  fun _ _ _ _ _ _ => WP_s (show ct 9 19 = some (.aload_n 0, 0, []) by decide +kernel) rfl,
  fun _ _ _ _ _ _ => WP_s (show ct 9 20 = some (.iconst 0, 0, []) by decide +kernel) rfl,
  fun _ _ _ _ _ _ _ h0 h1 => WH_newa (show ct 9 21 = some (.newarray .int, 1, [100, 209]) by decide +kernel) (by decide) h0 h1,
  fun _ _ _ _ _ _ _ _ ht => WH_pR (show ct 9 23 = some (.putfield 18, 1, [1, 5, 2, 0, 501]) by decide +kernel) ht,
  fun _ _ _ _ _ _ => WP_s (show ct 9 26 = some (.aload_n 0, 0, []) by decide +kernel) rfl,
  fun _ _ _ _ _ _ => WP_s (show ct 9 27 = some (.iconst 0, 0, []) by decide +kernel) rfl,
  fun _ _ _ _ _ _ _ h0 h1 => WH_newa (show ct 9 28 = some (.newarray .int, 1, [100, 209]) by decide +kernel) (by decide) h0 h1,
  fun _ _ _ _ _ _ _ _ ht => WH_pR (show ct 9 30 = some (.putfield 21, 1, [1, 6, 2, 0, 502]) by decide +kernel) ht,
  fun _ _ _ _ _ _ => WP_s (show ct 9 33 = some (.aload_n 0, 0, []) by decide +kernel) rfl,
  fun _ _ _ _ _ _ => WP_s (show ct 9 34 = some (.aload_n 1, 0, []) by decide +kernel) rfl,
  fun _ _ _ _ _ _ _ _ ht => WH_pR (show ct 9 35 = some (.putfield 24, 1, [1, 0, 2, 1, 496]) by decide +kernel) ht,
  fun _ _ _ _ _ _ => WP_s (show ct 9 38 = some (.aload_n 0, 0, []) by decide +kernel) rfl,
  fun _ _ _ _ _ _ => WP_s (show ct 9 39 = some (.aload_n 2, 0, []) by decide +kernel) rfl,
  fun _ _ _ _ _ _ _ _ ht => WH_pR (show ct 9 40 = some (.putfield 28, 1, [1, 1, 2, 1, 497]) by decide +kernel) ht,
  fun _ _ _ _ _ => WR_v (show ct 9 43 = some (.return_, 2, [0]) by decide +kernel)⟩
/-! 10: FewBowls$Cheapest.search(LFewBowls$Net;III)I; loop heads [31] -/
theorem w10_31 : ∀ (x0 : Nat) (x1 : Nat) (x2 : Int32) (x3 : Int32) (x4 : Int32) (x5 : Int32) (x6 : Int32) (x7 : Value) (st : List Value) (h : AH) (Q : Option Value → AH → Prop), WP 10 31 [.ref x0, .ref x1, .int x2, .int x3, .int x4, .int x5, .int x6, x7] (st) h Q ↔ WP 10 33 [.ref x0, .ref x1, .int x2, .int x3, .int x4, .int x5, .int x6, x7] (.int x6 :: st) h Q := fun _ _ _ _ _ _ _ _ _ _ _ => WP_s (show ct 10 31 = some (.iload 6, 0, []) by decide +kernel) rfl
set_option maxRecDepth 10000 in
theorem w10_a : (∀ (x0 : Nat) (x1 : Nat) (x2 : Int32) (x3 : Int32) (x4 : Int32) (st : List Value) (h : AH) (Q : Option Value → AH → Prop), WP 10 0 [.ref x0, .ref x1, .int x2, .int x3, .int x4, .retAddr 0, .retAddr 0, .retAddr 0] (st) h Q ↔ WP 10 1 [.ref x0, .ref x1, .int x2, .int x3, .int x4, .retAddr 0, .retAddr 0, .retAddr 0] (.ref x0 :: st) h Q) ∧
  (∀ (x0 : Nat) (x1 : Nat) (x2 : Int32) (x3 : Int32) (x4 : Int32) (y0 : Nat) (st : List Value) (h : AH) (Q : Option Value → AH → Prop) (ht : hT h y0 = 2), WP 10 1 [.ref x0, .ref x1, .int x2, .int x3, .int x4, .retAddr 0, .retAddr 0, .retAddr 0] (.ref y0 :: st) h Q ↔ WP 10 4 [.ref x0, .ref x1, .int x2, .int x3, .int x4, .retAddr 0, .retAddr 0, .retAddr 0] (.ref (hR h y0 1) :: st) h Q) ∧
  (∀ (x0 : Nat) (x1 : Nat) (x2 : Int32) (x3 : Int32) (x4 : Int32) (st : List Value) (h : AH) (Q : Option Value → AH → Prop), WP 10 4 [.ref x0, .ref x1, .int x2, .int x3, .int x4, .retAddr 0, .retAddr 0, .retAddr 0] (st) h Q ↔ WP 10 5 [.ref x0, .ref x1, .int x2, .int x3, .int x4, .retAddr 0, .retAddr 0, .retAddr 0] (.ref x1 :: st) h Q) ∧
  (∀ (x0 : Nat) (x1 : Nat) (x2 : Int32) (x3 : Int32) (x4 : Int32) (st : List Value) (h : AH) (Q : Option Value → AH → Prop), WP 10 5 [.ref x0, .ref x1, .int x2, .int x3, .int x4, .retAddr 0, .retAddr 0, .retAddr 0] (st) h Q ↔ WP 10 6 [.ref x0, .ref x1, .int x2, .int x3, .int x4, .retAddr 0, .retAddr 0, .retAddr 0] (.int x2 :: st) h Q) ∧
  (∀ (x0 : Nat) (x1 : Nat) (x2 : Int32) (x3 : Int32) (x4 : Int32) (st : List Value) (h : AH) (Q : Option Value → AH → Prop), WP 10 6 [.ref x0, .ref x1, .int x2, .int x3, .int x4, .retAddr 0, .retAddr 0, .retAddr 0] (st) h Q ↔ WP 10 7 [.ref x0, .ref x1, .int x2, .int x3, .int x4, .retAddr 0, .retAddr 0, .retAddr 0] (.int (-1) :: st) h Q) ∧
  (∀ (x0 : Nat) (x1 : Nat) (x2 : Int32) (x3 : Int32) (x4 : Int32) (y3 : Nat) (y2 : Nat) (y1 : Int32) (y0 : Int32) (h : AH) (Q : Option Value → AH → Prop) (ht : hT h y3 = 1), WP 10 7 [.ref x0, .ref x1, .int x2, .int x3, .int x4, .retAddr 0, .retAddr 0, .retAddr 0] ([.int y0, .int y1, .ref y2, .ref y3]) h Q ↔ WPM 2 [.ref y3, .ref y2, .int y1, .int y0] h (fun r h' => WP 10 10 [.ref x0, .ref x1, .int x2, .int x3, .int x4, .retAddr 0, .retAddr 0, .retAddr 0] (r.toList ++ []) h' Q)) ∧
  (∀ (x0 : Nat) (x1 : Nat) (x2 : Int32) (x3 : Int32) (x4 : Int32) (st : List Value) (h : AH) (Q : Option Value → AH → Prop), WP 10 10 [.ref x0, .ref x1, .int x2, .int x3, .int x4, .retAddr 0, .retAddr 0, .retAddr 0] (st) h Q ↔ WP 10 11 [.ref x0, .ref x1, .int x2, .int x3, .int x4, .retAddr 0, .retAddr 0, .retAddr 0] (.ref x1 :: st) h Q) ∧
  (∀ (x0 : Nat) (x1 : Nat) (x2 : Int32) (x3 : Int32) (x4 : Int32) (y0 : Nat) (h : AH) (Q : Option Value → AH → Prop) (ht : hT h y0 = 4), WP 10 11 [.ref x0, .ref x1, .int x2, .int x3, .int x4, .retAddr 0, .retAddr 0, .retAddr 0] ([.ref y0]) h Q ↔ WPM 25 [.ref y0] h (fun r h' => WP 10 14 [.ref x0, .ref x1, .int x2, .int x3, .int x4, .retAddr 0, .retAddr 0, .retAddr 0] (r.toList ++ []) h' Q)) ∧
  (∀ (x0 : Nat) (x1 : Nat) (x2 : Int32) (x3 : Int32) (x4 : Int32) (y0 : Int32) (st : List Value) (h : AH) (Q : Option Value → AH → Prop), WP 10 14 [.ref x0, .ref x1, .int x2, .int x3, .int x4, .retAddr 0, .retAddr 0, .retAddr 0] (.int y0 :: st) h Q ↔ WP 10 16 [.ref x0, .ref x1, .int x2, .int x3, .int x4, .int y0, .retAddr 0, .retAddr 0] (st) h Q) ∧
  (∀ (x0 : Nat) (x1 : Nat) (x2 : Int32) (x3 : Int32) (x4 : Int32) (x5 : Int32) (st : List Value) (h : AH) (Q : Option Value → AH → Prop), WP 10 16 [.ref x0, .ref x1, .int x2, .int x3, .int x4, .int x5, .retAddr 0, .retAddr 0] (st) h Q ↔ WP 10 17 [.ref x0, .ref x1, .int x2, .int x3, .int x4, .int x5, .retAddr 0, .retAddr 0] (.ref x0 :: st) h Q) ∧
  (∀ (x0 : Nat) (x1 : Nat) (x2 : Int32) (x3 : Int32) (x4 : Int32) (x5 : Int32) (st : List Value) (h : AH) (Q : Option Value → AH → Prop), WP 10 17 [.ref x0, .ref x1, .int x2, .int x3, .int x4, .int x5, .retAddr 0, .retAddr 0] (st) h Q ↔ WP 10 19 [.ref x0, .ref x1, .int x2, .int x3, .int x4, .int x5, .retAddr 0, .retAddr 0] (.int x5 :: st) h Q) ∧
  (∀ (x0 : Nat) (x1 : Nat) (x2 : Int32) (x3 : Int32) (x4 : Int32) (x5 : Int32) (y1 : Nat) (y0 : Int32) (h : AH) (Q : Option Value → AH → Prop) (ht : hT h y1 = 2), WP 10 19 [.ref x0, .ref x1, .int x2, .int x3, .int x4, .int x5, .retAddr 0, .retAddr 0] ([.int y0, .ref y1]) h Q ↔ WPM 11 [.ref y1, .int y0] h (fun r h' => WP 10 22 [.ref x0, .ref x1, .int x2, .int x3, .int x4, .int x5, .retAddr 0, .retAddr 0] (r.toList ++ []) h' Q)) ∧
  (∀ (x0 : Nat) (x1 : Nat) (x2 : Int32) (x3 : Int32) (x4 : Int32) (x5 : Int32) (st : List Value) (h : AH) (Q : Option Value → AH → Prop), WP 10 22 [.ref x0, .ref x1, .int x2, .int x3, .int x4, .int x5, .retAddr 0, .retAddr 0] (st) h Q ↔ WP 10 23 [.ref x0, .ref x1, .int x2, .int x3, .int x4, .int x5, .retAddr 0, .retAddr 0] (.ref x0 :: st) h Q) ∧
  (∀ (x0 : Nat) (x1 : Nat) (x2 : Int32) (x3 : Int32) (x4 : Int32) (x5 : Int32) (st : List Value) (h : AH) (Q : Option Value → AH → Prop), WP 10 23 [.ref x0, .ref x1, .int x2, .int x3, .int x4, .int x5, .retAddr 0, .retAddr 0] (st) h Q ↔ WP 10 24 [.ref x0, .ref x1, .int x2, .int x3, .int x4, .int x5, .retAddr 0, .retAddr 0] (.int (0) :: st) h Q) ∧
  (∀ (x0 : Nat) (x1 : Nat) (x2 : Int32) (x3 : Int32) (x4 : Int32) (x5 : Int32) (st : List Value) (h : AH) (Q : Option Value → AH → Prop), WP 10 24 [.ref x0, .ref x1, .int x2, .int x3, .int x4, .int x5, .retAddr 0, .retAddr 0] (st) h Q ↔ WP 10 25 [.ref x0, .ref x1, .int x2, .int x3, .int x4, .int x5, .retAddr 0, .retAddr 0] (.int (0) :: st) h Q) ∧
  (∀ (x0 : Nat) (x1 : Nat) (x2 : Int32) (x3 : Int32) (x4 : Int32) (x5 : Int32) (y2 : Nat) (y1 : Int32) (y0 : Int32) (h : AH) (Q : Option Value → AH → Prop) (ht : hT h y2 = 2), WP 10 25 [.ref x0, .ref x1, .int x2, .int x3, .int x4, .int x5, .retAddr 0, .retAddr 0] ([.int y0, .int y1, .ref y2]) h Q ↔ WPM 15 [.ref y2, .int y1, .int y0] h (fun r h' => WP 10 28 [.ref x0, .ref x1, .int x2, .int x3, .int x4, .int x5, .retAddr 0, .retAddr 0] (r.toList ++ []) h' Q)) ∧
  (∀ (x0 : Nat) (x1 : Nat) (x2 : Int32) (x3 : Int32) (x4 : Int32) (x5 : Int32) (st : List Value) (h : AH) (Q : Option Value → AH → Prop), WP 10 28 [.ref x0, .ref x1, .int x2, .int x3, .int x4, .int x5, .retAddr 0, .retAddr 0] (st) h Q ↔ WP 10 29 [.ref x0, .ref x1, .int x2, .int x3, .int x4, .int x5, .retAddr 0, .retAddr 0] (.int (0) :: st) h Q) ∧
  (∀ (x0 : Nat) (x1 : Nat) (x2 : Int32) (x3 : Int32) (x4 : Int32) (x5 : Int32) (y0 : Int32) (st : List Value) (h : AH) (Q : Option Value → AH → Prop), WP 10 29 [.ref x0, .ref x1, .int x2, .int x3, .int x4, .int x5, .retAddr 0, .retAddr 0] (.int y0 :: st) h Q ↔ WP 10 31 [.ref x0, .ref x1, .int x2, .int x3, .int x4, .int x5, .int y0, .retAddr 0] (st) h Q) ∧
  (∀ (x0 : Nat) (x1 : Nat) (x2 : Int32) (x3 : Int32) (x4 : Int32) (x5 : Int32) (x6 : Int32) (x7 : Value) (st : List Value) (h : AH) (Q : Option Value → AH → Prop), WP 10 33 [.ref x0, .ref x1, .int x2, .int x3, .int x4, .int x5, .int x6, x7] (st) h Q ↔ WP 10 35 [.ref x0, .ref x1, .int x2, .int x3, .int x4, .int x5, .int x6, x7] (.int x5 :: st) h Q) ∧
  (∀ (x0 : Nat) (x1 : Nat) (x2 : Int32) (x3 : Int32) (x4 : Int32) (x5 : Int32) (x6 : Int32) (x7 : Value) (y0 : Int32) (y1 : Int32) (st : List Value) (h : AH) (Q : Option Value → AH → Prop), WP 10 35 [.ref x0, .ref x1, .int x2, .int x3, .int x4, .int x5, .int x6, x7] (.int y0 :: .int y1 :: st) h Q ↔ ((y0 ≤ y1 → WP 10 88 [.ref x0, .ref x1, .int x2, .int x3, .int x4, .int x5, .int x6, x7] (st) h Q) ∧ (¬ y0 ≤ y1 → WP 10 38 [.ref x0, .ref x1, .int x2, .int x3, .int x4, .int x5, .int x6, x7] (st) h Q))) ∧
  (∀ (x0 : Nat) (x1 : Nat) (x2 : Int32) (x3 : Int32) (x4 : Int32) (x5 : Int32) (x6 : Int32) (x7 : Value) (st : List Value) (h : AH) (Q : Option Value → AH → Prop), WP 10 38 [.ref x0, .ref x1, .int x2, .int x3, .int x4, .int x5, .int x6, x7] (st) h Q ↔ WP 10 39 [.ref x0, .ref x1, .int x2, .int x3, .int x4, .int x5, .int x6, x7] (.ref x0 :: st) h Q) ∧
  (∀ (x0 : Nat) (x1 : Nat) (x2 : Int32) (x3 : Int32) (x4 : Int32) (x5 : Int32) (x6 : Int32) (x7 : Value) (y0 : Nat) (h : AH) (Q : Option Value → AH → Prop) (ht : hT h y0 = 2), WP 10 39 [.ref x0, .ref x1, .int x2, .int x3, .int x4, .int x5, .int x6, x7] ([.ref y0]) h Q ↔ WPM 14 [.ref y0] h (fun r h' => WP 10 42 [.ref x0, .ref x1, .int x2, .int x3, .int x4, .int x5, .int x6, x7] (r.toList ++ []) h' Q)) ∧
  (∀ (x0 : Nat) (x1 : Nat) (x2 : Int32) (x3 : Int32) (x4 : Int32) (x5 : Int32) (x6 : Int32) (x7 : Value) (y0 : Int32) (st : List Value) (h : AH) (Q : Option Value → AH → Prop), WP 10 42 [.ref x0, .ref x1, .int x2, .int x3, .int x4, .int x5, .int x6, x7] (.int y0 :: st) h Q ↔ WP 10 44 [.ref x0, .ref x1, .int x2, .int x3, .int x4, .int x5, .int x6, .int y0] (st) h Q) ∧
  (∀ (x0 : Nat) (x1 : Nat) (x2 : Int32) (x3 : Int32) (x4 : Int32) (x5 : Int32) (x6 : Int32) (x7 : Int32) (st : List Value) (h : AH) (Q : Option Value → AH → Prop), WP 10 44 [.ref x0, .ref x1, .int x2, .int x3, .int x4, .int x5, .int x6, .int x7] (st) h Q ↔ WP 10 46 [.ref x0, .ref x1, .int x2, .int x3, .int x4, .int x5, .int x6, .int x7] (.int x7 :: st) h Q) ∧
  (∀ (x0 : Nat) (x1 : Nat) (x2 : Int32) (x3 : Int32) (x4 : Int32) (x5 : Int32) (x6 : Int32) (x7 : Int32) (y0 : Int32) (st : List Value) (h : AH) (Q : Option Value → AH → Prop), WP 10 46 [.ref x0, .ref x1, .int x2, .int x3, .int x4, .int x5, .int x6, .int x7] (.int y0 :: st) h Q ↔ ((0 ≤ y0 → WP 10 51 [.ref x0, .ref x1, .int x2, .int x3, .int x4, .int x5, .int x6, .int x7] (st) h Q) ∧ (¬ 0 ≤ y0 → WP 10 49 [.ref x0, .ref x1, .int x2, .int x3, .int x4, .int x5, .int x6, .int x7] (st) h Q))) ∧
  (∀ (x0 : Nat) (x1 : Nat) (x2 : Int32) (x3 : Int32) (x4 : Int32) (x5 : Int32) (x6 : Int32) (x7 : Int32) (st : List Value) (h : AH) (Q : Option Value → AH → Prop), WP 10 49 [.ref x0, .ref x1, .int x2, .int x3, .int x4, .int x5, .int x6, .int x7] (st) h Q ↔ WP 10 50 [.ref x0, .ref x1, .int x2, .int x3, .int x4, .int x5, .int x6, .int x7] (.int (-1) :: st) h Q) ∧
  (∀ (x0 : Nat) (x1 : Nat) (x2 : Int32) (x3 : Int32) (x4 : Int32) (x5 : Int32) (x6 : Int32) (x7 : Int32) (y0 : Int32) (h : AH) (Q : Option Value → AH → Prop), WP 10 50 [.ref x0, .ref x1, .int x2, .int x3, .int x4, .int x5, .int x6, .int x7] ([.int y0]) h Q ↔ Q (some (.int y0)) h) ∧
  (∀ (x0 : Nat) (x1 : Nat) (x2 : Int32) (x3 : Int32) (x4 : Int32) (x5 : Int32) (x6 : Int32) (x7 : Int32) (st : List Value) (h : AH) (Q : Option Value → AH → Prop), WP 10 51 [.ref x0, .ref x1, .int x2, .int x3, .int x4, .int x5, .int x6, .int x7] (st) h Q ↔ WP 10 53 [.ref x0, .ref x1, .int x2, .int x3, .int x4, .int x5, .int x6, .int x7] (.int x7 :: st) h Q) ∧
  (∀ (x0 : Nat) (x1 : Nat) (x2 : Int32) (x3 : Int32) (x4 : Int32) (x5 : Int32) (x6 : Int32) (x7 : Int32) (st : List Value) (h : AH) (Q : Option Value → AH → Prop), WP 10 53 [.ref x0, .ref x1, .int x2, .int x3, .int x4, .int x5, .int x6, .int x7] (st) h Q ↔ WP 10 54 [.ref x0, .ref x1, .int x2, .int x3, .int x4, .int x5, .int x6, .int x7] (.ref x1 :: st) h Q) ∧
  (∀ (x0 : Nat) (x1 : Nat) (x2 : Int32) (x3 : Int32) (x4 : Int32) (x5 : Int32) (x6 : Int32) (x7 : Int32) (y0 : Nat) (st : List Value) (h : AH) (Q : Option Value → AH → Prop) (ht : hT h y0 = 4), WP 10 54 [.ref x0, .ref x1, .int x2, .int x3, .int x4, .int x5, .int x6, .int x7] (.ref y0 :: st) h Q ↔ WP 10 57 [.ref x0, .ref x1, .int x2, .int x3, .int x4, .int x5, .int x6, .int x7] (.int (hI h y0 2) :: st) h Q) ∧
  (∀ (x0 : Nat) (x1 : Nat) (x2 : Int32) (x3 : Int32) (x4 : Int32) (x5 : Int32) (x6 : Int32) (x7 : Int32) (st : List Value) (h : AH) (Q : Option Value → AH → Prop), WP 10 57 [.ref x0, .ref x1, .int x2, .int x3, .int x4, .int x5, .int x6, .int x7] (st) h Q ↔ WP 10 58 [.ref x0, .ref x1, .int x2, .int x3, .int x4, .int x5, .int x6, .int x7] (.int x2 :: st) h Q) ∧
  (∀ (x0 : Nat) (x1 : Nat) (x2 : Int32) (x3 : Int32) (x4 : Int32) (x5 : Int32) (x6 : Int32) (x7 : Int32) (y2 : Int32) (y1 : Int32) (y0 : Int32) (h : AH) (Q : Option Value → AH → Prop), WP 10 58 [.ref x0, .ref x1, .int x2, .int x3, .int x4, .int x5, .int x6, .int x7] ([.int y0, .int y1, .int y2]) h Q ↔ WPM 142 [.int y2, .int y1, .int y0] h (fun r h' => WP 10 61 [.ref x0, .ref x1, .int x2, .int x3, .int x4, .int x5, .int x6, .int x7] (r.toList ++ []) h' Q)) ∧
  (∀ (x0 : Nat) (x1 : Nat) (x2 : Int32) (x3 : Int32) (x4 : Int32) (x5 : Int32) (x6 : Int32) (x7 : Int32) (y0 : Int32) (st : List Value) (h : AH) (Q : Option Value → AH → Prop), WP 10 61 [.ref x0, .ref x1, .int x2, .int x3, .int x4, .int x5, .int x6, .int x7] (.int y0 :: st) h Q ↔ ((y0 = 0 → WP 10 72 [.ref x0, .ref x1, .int x2, .int x3, .int x4, .int x5, .int x6, .int x7] (st) h Q) ∧ (¬ y0 = 0 → WP 10 64 [.ref x0, .ref x1, .int x2, .int x3, .int x4, .int x5, .int x6, .int x7] (st) h Q))) ∧
  (∀ (x0 : Nat) (x1 : Nat) (x2 : Int32) (x3 : Int32) (x4 : Int32) (x5 : Int32) (x6 : Int32) (x7 : Int32) (st : List Value) (h : AH) (Q : Option Value → AH → Prop), WP 10 64 [.ref x0, .ref x1, .int x2, .int x3, .int x4, .int x5, .int x6, .int x7] (st) h Q ↔ WP 10 65 [.ref x0, .ref x1, .int x2, .int x3, .int x4, .int x5, .int x6, .int x7] (.ref x0 :: st) h Q) ∧
  (∀ (x0 : Nat) (x1 : Nat) (x2 : Int32) (x3 : Int32) (x4 : Int32) (x5 : Int32) (x6 : Int32) (x7 : Int32) (y0 : Nat) (st : List Value) (h : AH) (Q : Option Value → AH → Prop) (ht : hT h y0 = 2), WP 10 65 [.ref x0, .ref x1, .int x2, .int x3, .int x4, .int x5, .int x6, .int x7] (.ref y0 :: st) h Q ↔ WP 10 68 [.ref x0, .ref x1, .int x2, .int x3, .int x4, .int x5, .int x6, .int x7] (.ref (hR h y0 4) :: st) h Q) ∧
  (∀ (x0 : Nat) (x1 : Nat) (x2 : Int32) (x3 : Int32) (x4 : Int32) (x5 : Int32) (x6 : Int32) (x7 : Int32) (st : List Value) (h : AH) (Q : Option Value → AH → Prop), WP 10 68 [.ref x0, .ref x1, .int x2, .int x3, .int x4, .int x5, .int x6, .int x7] (st) h Q ↔ WP 10 70 [.ref x0, .ref x1, .int x2, .int x3, .int x4, .int x5, .int x6, .int x7] (.int x7 :: st) h Q) ∧
  (∀ (x0 : Nat) (x1 : Nat) (x2 : Int32) (x3 : Int32) (x4 : Int32) (x5 : Int32) (x6 : Int32) (x7 : Int32) (y0 : Int32) (y1 : Nat) (st : List Value) (h : AH) (Q : Option Value → AH → Prop) (ht : hT h y1 = 100 ∨ hT h y1 = 110) (hi : inb y0 (hL h y1) = true), WP 10 70 [.ref x0, .ref x1, .int x2, .int x3, .int x4, .int x5, .int x6, .int x7] (.int y0 :: .ref y1 :: st) h Q ↔ WP 10 71 [.ref x0, .ref x1, .int x2, .int x3, .int x4, .int x5, .int x6, .int x7] (.int (hI h y1 y0.toNatClampNeg) :: st) h Q) ∧
  (∀ (x0 : Nat) (x1 : Nat) (x2 : Int32) (x3 : Int32) (x4 : Int32) (x5 : Int32) (x6 : Int32) (x7 : Int32) (y0 : Int32) (h : AH) (Q : Option Value → AH → Prop), WP 10 71 [.ref x0, .ref x1, .int x2, .int x3, .int x4, .int x5, .int x6, .int x7] ([.int y0]) h Q ↔ Q (some (.int y0)) h) ∧
  (∀ (x0 : Nat) (x1 : Nat) (x2 : Int32) (x3 : Int32) (x4 : Int32) (x5 : Int32) (x6 : Int32) (x7 : Int32) (st : List Value) (h : AH) (Q : Option Value → AH → Prop), WP 10 72 [.ref x0, .ref x1, .int x2, .int x3, .int x4, .int x5, .int x6, .int x7] (st) h Q ↔ WP 10 73 [.ref x0, .ref x1, .int x2, .int x3, .int x4, .int x5, .int x6, .int x7] (.ref x0 :: st) h Q) ∧
  (∀ (x0 : Nat) (x1 : Nat) (x2 : Int32) (x3 : Int32) (x4 : Int32) (x5 : Int32) (x6 : Int32) (x7 : Int32) (st : List Value) (h : AH) (Q : Option Value → AH → Prop), WP 10 73 [.ref x0, .ref x1, .int x2, .int x3, .int x4, .int x5, .int x6, .int x7] (st) h Q ↔ WP 10 74 [.ref x0, .ref x1, .int x2, .int x3, .int x4, .int x5, .int x6, .int x7] (.ref x1 :: st) h Q) :=
  ⟨fun _ _ _ _ _ _ _ _ => WP_s (show ct 10 0 = some (.aload_n 0, 0, []) by decide +kernel) rfl,
  fun _ _ _ _ _ _ _ _ _ ht => WH_gR (show ct 10 1 = some (.getfield 28, 1, [1, 1, 2, 497]) by decide +kernel) ht,
  fun _ _ _ _ _ _ _ _ => WP_s (show ct 10 4 = some (.aload_n 1, 0, []) by decide +kernel) rfl,
  fun _ _ _ _ _ _ _ _ => WP_s (show ct 10 5 = some (.iload_n 2, 0, []) by decide +kernel) rfl,
  fun _ _ _ _ _ _ _ _ => WP_s (show ct 10 6 = some (.iconst (-1), 0, []) by decide +kernel) rfl,
  fun _ _ _ _ _ _ _ _ _ _ _ ht => WC_1 (show ct 10 7 = some (.invokevirtual 32, 3, [2, 4, 1, 1, 0, 908, 778, 779]) by decide +kernel) (Nat.le_of_ble_eq_true rfl) (Nat.le_of_ble_eq_true rfl) rfl rfl ht,
  fun _ _ _ _ _ _ _ _ => WP_s (show ct 10 10 = some (.aload_n 1, 0, []) by decide +kernel) rfl,
  fun _ _ _ _ _ _ _ _ ht => WC_1 (show ct 10 11 = some (.invokevirtual 38, 3, [25, 1, 1, 4, 0, 909, 782, 783]) by decide +kernel) (Nat.le_of_ble_eq_true rfl) (Nat.le_of_ble_eq_true rfl) rfl rfl ht,
  fun _ _ _ _ _ _ _ _ _ => WP_s (show ct 10 14 = some (.istore 5, 0, []) by decide +kernel) rfl,
  fun _ _ _ _ _ _ _ _ _ => WP_s (show ct 10 16 = some (.aload_n 0, 0, []) by decide +kernel) rfl,
  fun _ _ _ _ _ _ _ _ _ => WP_s (show ct 10 17 = some (.iload 5, 0, []) by decide +kernel) rfl,
  fun _ _ _ _ _ _ _ _ _ _ ht => WC_1 (show ct 10 19 = some (.invokevirtual 44, 3, [11, 2, 1, 2, 0, 910, 912, 31]) by decide +kernel) (Nat.le_of_ble_eq_true rfl) (Nat.le_of_ble_eq_true rfl) rfl rfl ht,
  fun _ _ _ _ _ _ _ _ _ => WP_s (show ct 10 22 = some (.aload_n 0, 0, []) by decide +kernel) rfl,
  fun _ _ _ _ _ _ _ _ _ => WP_s (show ct 10 23 = some (.iconst 0, 0, []) by decide +kernel) rfl,
  fun _ _ _ _ _ _ _ _ _ => WP_s (show ct 10 24 = some (.iconst 0, 0, []) by decide +kernel) rfl,
  fun _ _ _ _ _ _ _ _ _ _ _ ht => WC_1 (show ct 10 25 = some (.invokevirtual 48, 3, [15, 3, 1, 2, 0, 920, 922, 32]) by decide +kernel) (Nat.le_of_ble_eq_true rfl) (Nat.le_of_ble_eq_true rfl) rfl rfl ht,
  fun _ _ _ _ _ _ _ _ _ => WP_s (show ct 10 28 = some (.iconst 0, 0, []) by decide +kernel) rfl,
  fun _ _ _ _ _ _ _ _ _ _ => WP_s (show ct 10 29 = some (.istore 6, 0, []) by decide +kernel) rfl,
  fun _ _ _ _ _ _ _ _ _ _ _ => WP_s (show ct 10 33 = some (.iload 5, 0, []) by decide +kernel) rfl,
  fun _ _ _ _ _ _ _ _ _ _ _ _ _ => WI_ge (show ct 10 35 = some (.if_icmp .ge 53, 0, [88]) by decide +kernel) (by decide),
  fun _ _ _ _ _ _ _ _ _ _ _ => WP_s (show ct 10 38 = some (.aload_n 0, 0, []) by decide +kernel) rfl,
  fun _ _ _ _ _ _ _ _ _ _ _ ht => WC_1 (show ct 10 39 = some (.invokevirtual 52, 3, [14, 1, 1, 2, 0, 924, 926, 33]) by decide +kernel) (Nat.le_of_ble_eq_true rfl) (Nat.le_of_ble_eq_true rfl) rfl rfl ht,
  fun _ _ _ _ _ _ _ _ _ _ _ _ => WP_s (show ct 10 42 = some (.istore 7, 0, []) by decide +kernel) rfl,
  fun _ _ _ _ _ _ _ _ _ _ _ => WP_s (show ct 10 44 = some (.iload 7, 0, []) by decide +kernel) rfl,
  fun _ _ _ _ _ _ _ _ _ _ _ _ => WZ_ge (show ct 10 46 = some (.ifCond .ge 5, 0, [51]) by decide +kernel) (by decide),
  fun _ _ _ _ _ _ _ _ _ _ _ => WP_s (show ct 10 49 = some (.iconst (-1), 0, []) by decide +kernel) rfl,
  fun _ _ _ _ _ _ _ _ _ _ _ => WR_i (show ct 10 50 = some (.ireturn, 2, [0]) by decide +kernel),
  fun _ _ _ _ _ _ _ _ _ _ _ => WP_s (show ct 10 51 = some (.iload 7, 0, []) by decide +kernel) rfl,
  fun _ _ _ _ _ _ _ _ _ _ _ => WP_s (show ct 10 53 = some (.aload_n 1, 0, []) by decide +kernel) rfl,
  fun _ _ _ _ _ _ _ _ _ _ _ _ ht => WH_gI (show ct 10 54 = some (.getfield 55, 1, [3, 2, 0, 145]) by decide +kernel) (by decide) ht,
  fun _ _ _ _ _ _ _ _ _ _ _ => WP_s (show ct 10 57 = some (.iload_n 2, 0, []) by decide +kernel) rfl,
  fun _ _ _ _ _ _ _ _ _ _ _ _ _ => WC_0 (show ct 10 58 = some (.invokestatic 59, 3, [142, 3, 0, 0, 1, 932, 831, 0]) by decide +kernel) (Nat.le_of_ble_eq_true rfl) (Nat.le_of_ble_eq_true rfl) rfl rfl,
  fun _ _ _ _ _ _ _ _ _ _ _ _ => WZ_eq (show ct 10 61 = some (.ifCond .eq 11, 0, [72]) by decide +kernel) (by decide),
  fun _ _ _ _ _ _ _ _ _ _ _ => WP_s (show ct 10 64 = some (.aload_n 0, 0, []) by decide +kernel) rfl,
  fun _ _ _ _ _ _ _ _ _ _ _ _ ht => WH_gR (show ct 10 65 = some (.getfield 15, 1, [1, 4, 2, 500]) by decide +kernel) ht,
  fun _ _ _ _ _ _ _ _ _ _ _ => WP_s (show ct 10 68 = some (.iload 7, 0, []) by decide +kernel) rfl,
  fun _ _ _ _ _ _ _ _ _ _ _ _ _ ht hi => WH_iald (show ct 10 70 = some (.iaload, 1, []) by decide +kernel) ht hi,
  fun _ _ _ _ _ _ _ _ _ _ _ => WR_i (show ct 10 71 = some (.ireturn, 2, [0]) by decide +kernel),
  fun _ _ _ _ _ _ _ _ _ _ _ => WP_s (show ct 10 72 = some (.aload_n 0, 0, []) by decide +kernel) rfl,
  fun _ _ _ _ _ _ _ _ _ _ _ => WP_s (show ct 10 73 = some (.aload_n 1, 0, []) by decide +kernel) rfl⟩
set_option maxRecDepth 10000 in
theorem w10_b : (∀ (x0 : Nat) (x1 : Nat) (x2 : Int32) (x3 : Int32) (x4 : Int32) (x5 : Int32) (x6 : Int32) (x7 : Int32) (st : List Value) (h : AH) (Q : Option Value → AH → Prop), WP 10 74 [.ref x0, .ref x1, .int x2, .int x3, .int x4, .int x5, .int x6, .int x7] (st) h Q ↔ WP 10 76 [.ref x0, .ref x1, .int x2, .int x3, .int x4, .int x5, .int x6, .int x7] (.int x7 :: st) h Q) ∧
  (∀ (x0 : Nat) (x1 : Nat) (x2 : Int32) (x3 : Int32) (x4 : Int32) (x5 : Int32) (x6 : Int32) (x7 : Int32) (st : List Value) (h : AH) (Q : Option Value → AH → Prop), WP 10 76 [.ref x0, .ref x1, .int x2, .int x3, .int x4, .int x5, .int x6, .int x7] (st) h Q ↔ WP 10 77 [.ref x0, .ref x1, .int x2, .int x3, .int x4, .int x5, .int x6, .int x7] (.int x3 :: st) h Q) ∧
  (∀ (x0 : Nat) (x1 : Nat) (x2 : Int32) (x3 : Int32) (x4 : Int32) (x5 : Int32) (x6 : Int32) (x7 : Int32) (st : List Value) (h : AH) (Q : Option Value → AH → Prop), WP 10 77 [.ref x0, .ref x1, .int x2, .int x3, .int x4, .int x5, .int x6, .int x7] (st) h Q ↔ WP 10 79 [.ref x0, .ref x1, .int x2, .int x3, .int x4, .int x5, .int x6, .int x7] (.int x4 :: st) h Q) ∧
  (∀ (x0 : Nat) (x1 : Nat) (x2 : Int32) (x3 : Int32) (x4 : Int32) (x5 : Int32) (x6 : Int32) (x7 : Int32) (y4 : Nat) (y3 : Nat) (y2 : Int32) (y1 : Int32) (y0 : Int32) (h : AH) (Q : Option Value → AH → Prop) (ht : hT h y4 = 2), WP 10 79 [.ref x0, .ref x1, .int x2, .int x3, .int x4, .int x5, .int x6, .int x7] ([.int y0, .int y1, .int y2, .ref y3, .ref y4]) h Q ↔ WPM 12 [.ref y4, .ref y3, .int y2, .int y1, .int y0] h (fun r h' => WP 10 82 [.ref x0, .ref x1, .int x2, .int x3, .int x4, .int x5, .int x6, .int x7] (r.toList ++ []) h' Q)) ∧
  (∀ (x0 : Nat) (x1 : Nat) (x2 : Int32) (x3 : Int32) (x4 : Int32) (x5 : Int32) (x6 : Int32) (x7 : Int32) (st : List Value) (h : AH) (Q : Option Value → AH → Prop), WP 10 82 [.ref x0, .ref x1, .int x2, .int x3, .int x4, .int x5, .int x6, .int x7] (st) h Q ↔ WP 10 85 [.ref x0, .ref x1, .int x2, .int x3, .int x4, .int x5, .int (x6 + (1)), .int x7] (st) h Q) ∧
  (∀ (x0 : Nat) (x1 : Nat) (x2 : Int32) (x3 : Int32) (x4 : Int32) (x5 : Int32) (x6 : Int32) (x7 : Int32) (st : List Value) (h : AH) (Q : Option Value → AH → Prop), WP 10 85 [.ref x0, .ref x1, .int x2, .int x3, .int x4, .int x5, .int x6, .int x7] (st) h Q ↔ WP 10 31 [.ref x0, .ref x1, .int x2, .int x3, .int x4, .int x5, .int x6, .int x7] (st) h Q) ∧
  (∀ (x0 : Nat) (x1 : Nat) (x2 : Int32) (x3 : Int32) (x4 : Int32) (x5 : Int32) (x6 : Int32) (x7 : Value) (st : List Value) (h : AH) (Q : Option Value → AH → Prop), WP 10 88 [.ref x0, .ref x1, .int x2, .int x3, .int x4, .int x5, .int x6, x7] (st) h Q ↔ WP 10 89 [.ref x0, .ref x1, .int x2, .int x3, .int x4, .int x5, .int x6, x7] (.int (-1) :: st) h Q) ∧
  (∀ (x0 : Nat) (x1 : Nat) (x2 : Int32) (x3 : Int32) (x4 : Int32) (x5 : Int32) (x6 : Int32) (x7 : Value) (y0 : Int32) (h : AH) (Q : Option Value → AH → Prop), WP 10 89 [.ref x0, .ref x1, .int x2, .int x3, .int x4, .int x5, .int x6, x7] ([.int y0]) h Q ↔ Q (some (.int y0)) h) :=
  ⟨fun _ _ _ _ _ _ _ _ _ _ _ => WP_s (show ct 10 74 = some (.iload 7, 0, []) by decide +kernel) rfl,
  fun _ _ _ _ _ _ _ _ _ _ _ => WP_s (show ct 10 76 = some (.iload_n 3, 0, []) by decide +kernel) rfl,
  fun _ _ _ _ _ _ _ _ _ _ _ => WP_s (show ct 10 77 = some (.iload 4, 0, []) by decide +kernel) rfl,
  fun _ _ _ _ _ _ _ _ _ _ _ _ _ _ _ ht => WC_1 (show ct 10 79 = some (.invokevirtual 63, 3, [12, 5, 1, 2, 0, 933, 935, 35]) by decide +kernel) (Nat.le_of_ble_eq_true rfl) (Nat.le_of_ble_eq_true rfl) rfl rfl ht,
  fun _ _ _ _ _ _ _ _ _ _ _ => WP_s (show ct 10 82 = some (.iinc 6 1, 0, []) by decide +kernel) rfl,
  fun _ _ _ _ _ _ _ _ _ _ _ => WP_s (show ct 10 85 = some (.goto (-54), 0, [31]) by decide +kernel) rfl,
  fun _ _ _ _ _ _ _ _ _ _ _ => WP_s (show ct 10 88 = some (.iconst (-1), 0, []) by decide +kernel) rfl,
  fun _ _ _ _ _ _ _ _ _ _ _ => WR_i (show ct 10 89 = some (.ireturn, 2, [0]) by decide +kernel)⟩
/-- all of 10 -/
def w10_n : Nat := 2
/-! 11: FewBowls$Cheapest.open(I)V; loop heads [38, 58] -/
theorem w11_38 : ∀ (x0 : Nat) (x1 : Int32) (x2 : Int32) (st : List Value) (h : AH) (Q : Option Value → AH → Prop), WP 11 38 [.ref x0, .int x1, .int x2] (st) h Q ↔ WP 11 39 [.ref x0, .int x1, .int x2] (.int x2 :: st) h Q := fun _ _ _ _ _ _ => WP_s (show ct 11 38 = some (.iload_n 2, 0, []) by decide +kernel) rfl
theorem w11_58 : ∀ (x0 : Nat) (x1 : Int32) (x2 : Int32) (st : List Value) (h : AH) (Q : Option Value → AH → Prop), WP 11 58 [.ref x0, .int x1, .int x2] (st) h Q ↔ WP 11 59 [.ref x0, .int x1, .int x2] (.int x2 :: st) h Q := fun _ _ _ _ _ _ => WP_s (show ct 11 58 = some (.iload_n 2, 0, []) by decide +kernel) rfl
set_option maxRecDepth 10000 in
theorem w11_a : (∀ (x0 : Nat) (x1 : Int32) (st : List Value) (h : AH) (Q : Option Value → AH → Prop), WP 11 0 [.ref x0, .int x1, .retAddr 0] (st) h Q ↔ WP 11 1 [.ref x0, .int x1, .retAddr 0] (.ref x0 :: st) h Q) ∧
  (∀ (x0 : Nat) (x1 : Int32) (st : List Value) (h : AH) (Q : Option Value → AH → Prop), WP 11 1 [.ref x0, .int x1, .retAddr 0] (st) h Q ↔ WP 11 2 [.ref x0, .int x1, .retAddr 0] (.ref x0 :: st) h Q) ∧
  (∀ (x0 : Nat) (x1 : Int32) (y0 : Nat) (st : List Value) (h : AH) (Q : Option Value → AH → Prop) (ht : hT h y0 = 2), WP 11 2 [.ref x0, .int x1, .retAddr 0] (.ref y0 :: st) h Q ↔ WP 11 5 [.ref x0, .int x1, .retAddr 0] (.ref (hR h y0 0) :: st) h Q) ∧
  (∀ (x0 : Nat) (x1 : Int32) (st : List Value) (h : AH) (Q : Option Value → AH → Prop), WP 11 5 [.ref x0, .int x1, .retAddr 0] (st) h Q ↔ WP 11 6 [.ref x0, .int x1, .retAddr 0] (.int x1 :: st) h Q) ∧
  (∀ (x0 : Nat) (x1 : Int32) (y2 : Nat) (y1 : Nat) (y0 : Int32) (h : AH) (Q : Option Value → AH → Prop) (ht : hT h y1 = 3), WP 11 6 [.ref x0, .int x1, .retAddr 0] ([.int y0, .ref y1, .ref y2]) h Q ↔ WPM 18 [.ref y1, .int y0] h (fun r h' => WP 11 9 [.ref x0, .int x1, .retAddr 0] (r.toList ++ [.ref y2]) h' Q)) ∧
  (∀ (x0 : Nat) (x1 : Int32) (y0 : Nat) (y1 : Nat) (st : List Value) (h : AH) (Q : Option Value → AH → Prop) (ht : hT h y1 = 2), WP 11 9 [.ref x0, .int x1, .retAddr 0] (.ref y0 :: .ref y1 :: st) h Q ↔ WP 11 12 [.ref x0, .int x1, .retAddr 0] (st) (sR h y1 4 y0) Q) ∧
  (∀ (x0 : Nat) (x1 : Int32) (st : List Value) (h : AH) (Q : Option Value → AH → Prop), WP 11 12 [.ref x0, .int x1, .retAddr 0] (st) h Q ↔ WP 11 13 [.ref x0, .int x1, .retAddr 0] (.ref x0 :: st) h Q) ∧
  (∀ (x0 : Nat) (x1 : Int32) (st : List Value) (h : AH) (Q : Option Value → AH → Prop), WP 11 13 [.ref x0, .int x1, .retAddr 0] (st) h Q ↔ WP 11 14 [.ref x0, .int x1, .retAddr 0] (.ref x0 :: st) h Q) ∧
  (∀ (x0 : Nat) (x1 : Int32) (y0 : Nat) (st : List Value) (h : AH) (Q : Option Value → AH → Prop) (ht : hT h y0 = 2), WP 11 14 [.ref x0, .int x1, .retAddr 0] (.ref y0 :: st) h Q ↔ WP 11 17 [.ref x0, .int x1, .retAddr 0] (.ref (hR h y0 0) :: st) h Q) ∧
  (∀ (x0 : Nat) (x1 : Int32) (st : List Value) (h : AH) (Q : Option Value → AH → Prop), WP 11 17 [.ref x0, .int x1, .retAddr 0] (st) h Q ↔ WP 11 18 [.ref x0, .int x1, .retAddr 0] (.int x1 :: st) h Q) ∧
  (∀ (x0 : Nat) (x1 : Int32) (y2 : Nat) (y1 : Nat) (y0 : Int32) (h : AH) (Q : Option Value → AH → Prop) (ht : hT h y1 = 3), WP 11 18 [.ref x0, .int x1, .retAddr 0] ([.int y0, .ref y1, .ref y2]) h Q ↔ WPM 19 [.ref y1, .int y0] h (fun r h' => WP 11 21 [.ref x0, .int x1, .retAddr 0] (r.toList ++ [.ref y2]) h' Q)) ∧
  (∀ (x0 : Nat) (x1 : Int32) (y0 : Nat) (y1 : Nat) (st : List Value) (h : AH) (Q : Option Value → AH → Prop) (ht : hT h y1 = 2), WP 11 21 [.ref x0, .int x1, .retAddr 0] (.ref y0 :: .ref y1 :: st) h Q ↔ WP 11 24 [.ref x0, .int x1, .retAddr 0] (st) (sR h y1 5 y0) Q) ∧
  (∀ (x0 : Nat) (x1 : Int32) (st : List Value) (h : AH) (Q : Option Value → AH → Prop), WP 11 24 [.ref x0, .int x1, .retAddr 0] (st) h Q ↔ WP 11 25 [.ref x0, .int x1, .retAddr 0] (.ref x0 :: st) h Q) ∧
  (∀ (x0 : Nat) (x1 : Int32) (st : List Value) (h : AH) (Q : Option Value → AH → Prop), WP 11 25 [.ref x0, .int x1, .retAddr 0] (st) h Q ↔ WP 11 26 [.ref x0, .int x1, .retAddr 0] (.ref x0 :: st) h Q) ∧
  (∀ (x0 : Nat) (x1 : Int32) (y0 : Nat) (st : List Value) (h : AH) (Q : Option Value → AH → Prop) (ht : hT h y0 = 2), WP 11 26 [.ref x0, .int x1, .retAddr 0] (.ref y0 :: st) h Q ↔ WP 11 29 [.ref x0, .int x1, .retAddr 0] (.ref (hR h y0 0) :: st) h Q) ∧
  (∀ (x0 : Nat) (x1 : Int32) (st : List Value) (h : AH) (Q : Option Value → AH → Prop), WP 11 29 [.ref x0, .int x1, .retAddr 0] (st) h Q ↔ WP 11 30 [.ref x0, .int x1, .retAddr 0] (.int x1 :: st) h Q) ∧
  (∀ (x0 : Nat) (x1 : Int32) (y2 : Nat) (y1 : Nat) (y0 : Int32) (h : AH) (Q : Option Value → AH → Prop) (ht : hT h y1 = 3), WP 11 30 [.ref x0, .int x1, .retAddr 0] ([.int y0, .ref y1, .ref y2]) h Q ↔ WPM 20 [.ref y1, .int y0] h (fun r h' => WP 11 33 [.ref x0, .int x1, .retAddr 0] (r.toList ++ [.ref y2]) h' Q)) ∧
  (∀ (x0 : Nat) (x1 : Int32) (y0 : Nat) (y1 : Nat) (st : List Value) (h : AH) (Q : Option Value → AH → Prop) (ht : hT h y1 = 2), WP 11 33 [.ref x0, .int x1, .retAddr 0] (.ref y0 :: .ref y1 :: st) h Q ↔ WP 11 36 [.ref x0, .int x1, .retAddr 0] (st) (sR h y1 6 y0) Q) ∧
  (∀ (x0 : Nat) (x1 : Int32) (st : List Value) (h : AH) (Q : Option Value → AH → Prop), WP 11 36 [.ref x0, .int x1, .retAddr 0] (st) h Q ↔ WP 11 37 [.ref x0, .int x1, .retAddr 0] (.int (0) :: st) h Q) ∧
  (∀ (x0 : Nat) (x1 : Int32) (y0 : Int32) (st : List Value) (h : AH) (Q : Option Value → AH → Prop), WP 11 37 [.ref x0, .int x1, .retAddr 0] (.int y0 :: st) h Q ↔ WP 11 38 [.ref x0, .int x1, .int y0] (st) h Q) ∧
  (∀ (x0 : Nat) (x1 : Int32) (x2 : Int32) (st : List Value) (h : AH) (Q : Option Value → AH → Prop), WP 11 39 [.ref x0, .int x1, .int x2] (st) h Q ↔ WP 11 40 [.ref x0, .int x1, .int x2] (.int x1 :: st) h Q) ∧
  (∀ (x0 : Nat) (x1 : Int32) (x2 : Int32) (y0 : Int32) (y1 : Int32) (st : List Value) (h : AH) (Q : Option Value → AH → Prop), WP 11 40 [.ref x0, .int x1, .int x2] (.int y0 :: .int y1 :: st) h Q ↔ ((y0 ≤ y1 → WP 11 56 [.ref x0, .int x1, .int x2] (st) h Q) ∧ (¬ y0 ≤ y1 → WP 11 43 [.ref x0, .int x1, .int x2] (st) h Q))) ∧
  (∀ (x0 : Nat) (x1 : Int32) (x2 : Int32) (st : List Value) (h : AH) (Q : Option Value → AH → Prop), WP 11 43 [.ref x0, .int x1, .int x2] (st) h Q ↔ WP 11 44 [.ref x0, .int x1, .int x2] (.ref x0 :: st) h Q) ∧
  (∀ (x0 : Nat) (x1 : Int32) (x2 : Int32) (y0 : Nat) (st : List Value) (h : AH) (Q : Option Value → AH → Prop) (ht : hT h y0 = 2), WP 11 44 [.ref x0, .int x1, .int x2] (.ref y0 :: st) h Q ↔ WP 11 47 [.ref x0, .int x1, .int x2] (.ref (hR h y0 4) :: st) h Q) ∧
  (∀ (x0 : Nat) (x1 : Int32) (x2 : Int32) (st : List Value) (h : AH) (Q : Option Value → AH → Prop), WP 11 47 [.ref x0, .int x1, .int x2] (st) h Q ↔ WP 11 48 [.ref x0, .int x1, .int x2] (.int x2 :: st) h Q) ∧
  (∀ (x0 : Nat) (x1 : Int32) (x2 : Int32) (st : List Value) (h : AH) (Q : Option Value → AH → Prop), WP 11 48 [.ref x0, .int x1, .int x2] (st) h Q ↔ WP 11 49 [.ref x0, .int x1, .int x2] (.int (-1) :: st) h Q) ∧
  (∀ (x0 : Nat) (x1 : Int32) (x2 : Int32) (y0 : Int32) (y1 : Int32) (y2 : Nat) (st : List Value) (h : AH) (Q : Option Value → AH → Prop) (ht : hT h y2 = 100) (hi : inb y1 (hL h y2) = true), WP 11 49 [.ref x0, .int x1, .int x2] (.int y0 :: .int y1 :: .ref y2 :: st) h Q ↔ WP 11 50 [.ref x0, .int x1, .int x2] (st) (sI h y2 y1.toNatClampNeg y0) Q) ∧
  (∀ (x0 : Nat) (x1 : Int32) (x2 : Int32) (st : List Value) (h : AH) (Q : Option Value → AH → Prop), WP 11 50 [.ref x0, .int x1, .int x2] (st) h Q ↔ WP 11 53 [.ref x0, .int x1, .int (x2 + (1))] (st) h Q) ∧
  (∀ (x0 : Nat) (x1 : Int32) (x2 : Int32) (st : List Value) (h : AH) (Q : Option Value → AH → Prop), WP 11 53 [.ref x0, .int x1, .int x2] (st) h Q ↔ WP 11 38 [.ref x0, .int x1, .int x2] (st) h Q) ∧
  (∀ (x0 : Nat) (x1 : Int32) (x2 : Int32) (st : List Value) (h : AH) (Q : Option Value → AH → Prop), WP 11 56 [.ref x0, .int x1, .int x2] (st) h Q ↔ WP 11 57 [.ref x0, .int x1, .int x2] (.int (0) :: st) h Q) ∧
  (∀ (x0 : Nat) (x1 : Int32) (x2 : Int32) (y0 : Int32) (st : List Value) (h : AH) (Q : Option Value → AH → Prop), WP 11 57 [.ref x0, .int x1, .int x2] (.int y0 :: st) h Q ↔ WP 11 58 [.ref x0, .int x1, .int y0] (st) h Q) ∧
  (∀ (x0 : Nat) (x1 : Int32) (x2 : Int32) (st : List Value) (h : AH) (Q : Option Value → AH → Prop), WP 11 59 [.ref x0, .int x1, .int x2] (st) h Q ↔ WP 11 61 [.ref x0, .int x1, .int x2] (.int (100) :: st) h Q) ∧
  (∀ (x0 : Nat) (x1 : Int32) (x2 : Int32) (y0 : Int32) (y1 : Int32) (st : List Value) (h : AH) (Q : Option Value → AH → Prop), WP 11 61 [.ref x0, .int x1, .int x2] (.int y0 :: .int y1 :: st) h Q ↔ ((y0 ≤ y1 → WP 11 77 [.ref x0, .int x1, .int x2] (st) h Q) ∧ (¬ y0 ≤ y1 → WP 11 64 [.ref x0, .int x1, .int x2] (st) h Q))) ∧
  (∀ (x0 : Nat) (x1 : Int32) (x2 : Int32) (st : List Value) (h : AH) (Q : Option Value → AH → Prop), WP 11 64 [.ref x0, .int x1, .int x2] (st) h Q ↔ WP 11 65 [.ref x0, .int x1, .int x2] (.ref x0 :: st) h Q) ∧
  (∀ (x0 : Nat) (x1 : Int32) (x2 : Int32) (y0 : Nat) (st : List Value) (h : AH) (Q : Option Value → AH → Prop) (ht : hT h y0 = 2), WP 11 65 [.ref x0, .int x1, .int x2] (.ref y0 :: st) h Q ↔ WP 11 68 [.ref x0, .int x1, .int x2] (.ref (hR h y0 2) :: st) h Q) ∧
  (∀ (x0 : Nat) (x1 : Int32) (x2 : Int32) (st : List Value) (h : AH) (Q : Option Value → AH → Prop), WP 11 68 [.ref x0, .int x1, .int x2] (st) h Q ↔ WP 11 69 [.ref x0, .int x1, .int x2] (.int x2 :: st) h Q) ∧
  (∀ (x0 : Nat) (x1 : Int32) (x2 : Int32) (st : List Value) (h : AH) (Q : Option Value → AH → Prop), WP 11 69 [.ref x0, .int x1, .int x2] (st) h Q ↔ WP 11 70 [.ref x0, .int x1, .int x2] (.int (-1) :: st) h Q) ∧
  (∀ (x0 : Nat) (x1 : Int32) (x2 : Int32) (y0 : Int32) (y1 : Int32) (y2 : Nat) (st : List Value) (h : AH) (Q : Option Value → AH → Prop) (ht : hT h y2 = 100) (hi : inb y1 (hL h y2) = true), WP 11 70 [.ref x0, .int x1, .int x2] (.int y0 :: .int y1 :: .ref y2 :: st) h Q ↔ WP 11 71 [.ref x0, .int x1, .int x2] (st) (sI h y2 y1.toNatClampNeg y0) Q) ∧
  (∀ (x0 : Nat) (x1 : Int32) (x2 : Int32) (st : List Value) (h : AH) (Q : Option Value → AH → Prop), WP 11 71 [.ref x0, .int x1, .int x2] (st) h Q ↔ WP 11 74 [.ref x0, .int x1, .int (x2 + (1))] (st) h Q) ∧
  (∀ (x0 : Nat) (x1 : Int32) (x2 : Int32) (st : List Value) (h : AH) (Q : Option Value → AH → Prop), WP 11 74 [.ref x0, .int x1, .int x2] (st) h Q ↔ WP 11 58 [.ref x0, .int x1, .int x2] (st) h Q) :=
  ⟨fun _ _ _ _ _ => WP_s (show ct 11 0 = some (.aload_n 0, 0, []) by decide +kernel) rfl,
  fun _ _ _ _ _ => WP_s (show ct 11 1 = some (.aload_n 0, 0, []) by decide +kernel) rfl,
  fun _ _ _ _ _ _ ht => WH_gR (show ct 11 2 = some (.getfield 24, 1, [1, 0, 2, 496]) by decide +kernel) ht,
  fun _ _ _ _ _ => WP_s (show ct 11 5 = some (.iload_n 1, 0, []) by decide +kernel) rfl,
  fun _ _ _ _ _ _ _ ht => WC_1 (show ct 11 6 = some (.invokevirtual 67, 3, [18, 2, 1, 3, 0, 914, 818, 819]) by decide +kernel) (Nat.le_of_ble_eq_true rfl) (Nat.le_of_ble_eq_true rfl) rfl rfl ht,
  fun _ _ _ _ _ _ _ ht => WH_pR (show ct 11 9 = some (.putfield 15, 1, [1, 4, 2, 0, 500]) by decide +kernel) ht,
  fun _ _ _ _ _ => WP_s (show ct 11 12 = some (.aload_n 0, 0, []) by decide +kernel) rfl,
  fun _ _ _ _ _ => WP_s (show ct 11 13 = some (.aload_n 0, 0, []) by decide +kernel) rfl,
  fun _ _ _ _ _ _ ht => WH_gR (show ct 11 14 = some (.getfield 24, 1, [1, 0, 2, 496]) by decide +kernel) ht,
  fun _ _ _ _ _ => WP_s (show ct 11 17 = some (.iload_n 1, 0, []) by decide +kernel) rfl,
  fun _ _ _ _ _ _ _ ht => WC_1 (show ct 11 18 = some (.invokevirtual 73, 3, [19, 2, 1, 3, 0, 915, 856, 857]) by decide +kernel) (Nat.le_of_ble_eq_true rfl) (Nat.le_of_ble_eq_true rfl) rfl rfl ht,
  fun _ _ _ _ _ _ _ ht => WH_pR (show ct 11 21 = some (.putfield 18, 1, [1, 5, 2, 0, 501]) by decide +kernel) ht,
  fun _ _ _ _ _ => WP_s (show ct 11 24 = some (.aload_n 0, 0, []) by decide +kernel) rfl,
  fun _ _ _ _ _ => WP_s (show ct 11 25 = some (.aload_n 0, 0, []) by decide +kernel) rfl,
  fun _ _ _ _ _ _ ht => WH_gR (show ct 11 26 = some (.getfield 24, 1, [1, 0, 2, 496]) by decide +kernel) ht,
  fun _ _ _ _ _ => WP_s (show ct 11 29 = some (.iload_n 1, 0, []) by decide +kernel) rfl,
  fun _ _ _ _ _ _ _ ht => WC_1 (show ct 11 30 = some (.invokevirtual 76, 3, [20, 2, 1, 3, 0, 916, 917, 918]) by decide +kernel) (Nat.le_of_ble_eq_true rfl) (Nat.le_of_ble_eq_true rfl) rfl rfl ht,
  fun _ _ _ _ _ _ _ ht => WH_pR (show ct 11 33 = some (.putfield 21, 1, [1, 6, 2, 0, 502]) by decide +kernel) ht,
  fun _ _ _ _ _ => WP_s (show ct 11 36 = some (.iconst 0, 0, []) by decide +kernel) rfl,
  fun _ _ _ _ _ _ => WP_s (show ct 11 37 = some (.istore_n 2, 0, []) by decide +kernel) rfl,
  fun _ _ _ _ _ _ => WP_s (show ct 11 39 = some (.iload_n 1, 0, []) by decide +kernel) rfl,
  fun _ _ _ _ _ _ _ _ => WI_ge (show ct 11 40 = some (.if_icmp .ge 16, 0, [56]) by decide +kernel) (by decide),
  fun _ _ _ _ _ _ => WP_s (show ct 11 43 = some (.aload_n 0, 0, []) by decide +kernel) rfl,
  fun _ _ _ _ _ _ _ ht => WH_gR (show ct 11 44 = some (.getfield 15, 1, [1, 4, 2, 500]) by decide +kernel) ht,
  fun _ _ _ _ _ _ => WP_s (show ct 11 47 = some (.iload_n 2, 0, []) by decide +kernel) rfl,
  fun _ _ _ _ _ _ => WP_s (show ct 11 48 = some (.iconst (-1), 0, []) by decide +kernel) rfl,
  fun _ _ _ _ _ _ _ _ _ ht hi => WH_iast (show ct 11 49 = some (.iastore, 1, []) by decide +kernel) ht hi,
  fun _ _ _ _ _ _ => WP_s (show ct 11 50 = some (.iinc 2 1, 0, []) by decide +kernel) rfl,
  fun _ _ _ _ _ _ => WP_s (show ct 11 53 = some (.goto (-15), 0, [38]) by decide +kernel) rfl,
  fun _ _ _ _ _ _ => WP_s (show ct 11 56 = some (.iconst 0, 0, []) by decide +kernel) rfl,
  fun _ _ _ _ _ _ _ => WP_s (show ct 11 57 = some (.istore_n 2, 0, []) by decide +kernel) rfl,
  fun _ _ _ _ _ _ => WP_s (show ct 11 59 = some (.bipush 100, 0, []) by decide +kernel) rfl,
  fun _ _ _ _ _ _ _ _ => WI_ge (show ct 11 61 = some (.if_icmp .ge 16, 0, [77]) by decide +kernel) (by decide),
  fun _ _ _ _ _ _ => WP_s (show ct 11 64 = some (.aload_n 0, 0, []) by decide +kernel) rfl,
  fun _ _ _ _ _ _ _ ht => WH_gR (show ct 11 65 = some (.getfield 11, 1, [1, 2, 2, 498]) by decide +kernel) ht,
  fun _ _ _ _ _ _ => WP_s (show ct 11 68 = some (.iload_n 2, 0, []) by decide +kernel) rfl,
  fun _ _ _ _ _ _ => WP_s (show ct 11 69 = some (.iconst (-1), 0, []) by decide +kernel) rfl,
  fun _ _ _ _ _ _ _ _ _ ht hi => WH_iast (show ct 11 70 = some (.iastore, 1, []) by decide +kernel) ht hi,
  fun _ _ _ _ _ _ => WP_s (show ct 11 71 = some (.iinc 2 1, 0, []) by decide +kernel) rfl,
  fun _ _ _ _ _ _ => WP_s (show ct 11 74 = some (.goto (-16), 0, [58]) by decide +kernel) rfl⟩
set_option maxRecDepth 10000 in
theorem w11_b : (∀ (x0 : Nat) (x1 : Int32) (x2 : Int32) (st : List Value) (h : AH) (Q : Option Value → AH → Prop), WP 11 77 [.ref x0, .int x1, .int x2] (st) h Q ↔ WP 11 78 [.ref x0, .int x1, .int x2] (.ref x0 :: st) h Q) ∧
  (∀ (x0 : Nat) (x1 : Int32) (x2 : Int32) (st : List Value) (h : AH) (Q : Option Value → AH → Prop), WP 11 78 [.ref x0, .int x1, .int x2] (st) h Q ↔ WP 11 79 [.ref x0, .int x1, .int x2] (.int (0) :: st) h Q) ∧
  (∀ (x0 : Nat) (x1 : Int32) (x2 : Int32) (y0 : Int32) (y1 : Nat) (st : List Value) (h : AH) (Q : Option Value → AH → Prop) (ht : hT h y1 = 2), WP 11 79 [.ref x0, .int x1, .int x2] (.int y0 :: .ref y1 :: st) h Q ↔ WP 11 82 [.ref x0, .int x1, .int x2] (st) (sI h y1 3 y0) Q) ∧
  (∀ (x0 : Nat) (x1 : Int32) (x2 : Int32) (h : AH) (Q : Option Value → AH → Prop), WP 11 82 [.ref x0, .int x1, .int x2] ([]) h Q ↔ Q none h) :=
  ⟨fun _ _ _ _ _ _ => WP_s (show ct 11 77 = some (.aload_n 0, 0, []) by decide +kernel) rfl,
  fun _ _ _ _ _ _ => WP_s (show ct 11 78 = some (.iconst 0, 0, []) by decide +kernel) rfl,
  fun _ _ _ _ _ _ _ _ ht => WH_pI (show ct 11 79 = some (.putfield 79, 1, [1, 3, 0, 0, 499]) by decide +kernel) ht,
  fun _ _ _ _ _ => WR_v (show ct 11 82 = some (.return_, 2, [0]) by decide +kernel)⟩
/-- all of 11 -/
def w11_n : Nat := 2
/-! 12: FewBowls$Cheapest.spread(LFewBowls$Net;III)V; loop heads [3] -/
theorem w12_3 : ∀ (x0 : Nat) (x1 : Nat) (x2 : Int32) (x3 : Int32) (x4 : Int32) (x5 : Int32) (x6 : Value) (x7 : Value) (st : List Value) (h : AH) (Q : Option Value → AH → Prop), WP 12 3 [.ref x0, .ref x1, .int x2, .int x3, .int x4, .int x5, x6, x7] (st) h Q ↔ WP 12 5 [.ref x0, .ref x1, .int x2, .int x3, .int x4, .int x5, x6, x7] (.int x5 :: st) h Q := fun _ _ _ _ _ _ _ _ _ _ _ => WP_s (show ct 12 3 = some (.iload 5, 0, []) by decide +kernel) rfl
set_option maxRecDepth 10000 in
theorem w12_a : (∀ (x0 : Nat) (x1 : Nat) (x2 : Int32) (x3 : Int32) (x4 : Int32) (st : List Value) (h : AH) (Q : Option Value → AH → Prop), WP 12 0 [.ref x0, .ref x1, .int x2, .int x3, .int x4, .retAddr 0, .retAddr 0, .retAddr 0] (st) h Q ↔ WP 12 1 [.ref x0, .ref x1, .int x2, .int x3, .int x4, .retAddr 0, .retAddr 0, .retAddr 0] (.int (0) :: st) h Q) ∧
  (∀ (x0 : Nat) (x1 : Nat) (x2 : Int32) (x3 : Int32) (x4 : Int32) (y0 : Int32) (st : List Value) (h : AH) (Q : Option Value → AH → Prop), WP 12 1 [.ref x0, .ref x1, .int x2, .int x3, .int x4, .retAddr 0, .retAddr 0, .retAddr 0] (.int y0 :: st) h Q ↔ WP 12 3 [.ref x0, .ref x1, .int x2, .int x3, .int x4, .int y0, .retAddr 0, .retAddr 0] (st) h Q) ∧
  (∀ (x0 : Nat) (x1 : Nat) (x2 : Int32) (x3 : Int32) (x4 : Int32) (x5 : Int32) (x6 : Value) (x7 : Value) (st : List Value) (h : AH) (Q : Option Value → AH → Prop), WP 12 5 [.ref x0, .ref x1, .int x2, .int x3, .int x4, .int x5, x6, x7] (st) h Q ↔ WP 12 6 [.ref x0, .ref x1, .int x2, .int x3, .int x4, .int x5, x6, x7] (.ref x0 :: st) h Q) ∧
  (∀ (x0 : Nat) (x1 : Nat) (x2 : Int32) (x3 : Int32) (x4 : Int32) (x5 : Int32) (x6 : Value) (x7 : Value) (y0 : Nat) (st : List Value) (h : AH) (Q : Option Value → AH → Prop) (ht : hT h y0 = 2), WP 12 6 [.ref x0, .ref x1, .int x2, .int x3, .int x4, .int x5, x6, x7] (.ref y0 :: st) h Q ↔ WP 12 9 [.ref x0, .ref x1, .int x2, .int x3, .int x4, .int x5, x6, x7] (.ref (hR h y0 1) :: st) h Q) ∧
  (∀ (x0 : Nat) (x1 : Nat) (x2 : Int32) (x3 : Int32) (x4 : Int32) (x5 : Int32) (x6 : Value) (x7 : Value) (y0 : Nat) (st : List Value) (h : AH) (Q : Option Value → AH → Prop) (ht : hT h y0 = 1), WP 12 9 [.ref x0, .ref x1, .int x2, .int x3, .int x4, .int x5, x6, x7] (.ref y0 :: st) h Q ↔ WP 12 12 [.ref x0, .ref x1, .int x2, .int x3, .int x4, .int x5, x6, x7] (.int (hI h y0 0) :: st) h Q) ∧
  (∀ (x0 : Nat) (x1 : Nat) (x2 : Int32) (x3 : Int32) (x4 : Int32) (x5 : Int32) (x6 : Value) (x7 : Value) (y0 : Int32) (y1 : Int32) (st : List Value) (h : AH) (Q : Option Value → AH → Prop), WP 12 12 [.ref x0, .ref x1, .int x2, .int x3, .int x4, .int x5, x6, x7] (.int y0 :: .int y1 :: st) h Q ↔ ((y0 ≤ y1 → WP 12 114 [.ref x0, .ref x1, .int x2, .int x3, .int x4, .int x5, x6, x7] (st) h Q) ∧ (¬ y0 ≤ y1 → WP 12 15 [.ref x0, .ref x1, .int x2, .int x3, .int x4, .int x5, x6, x7] (st) h Q))) ∧
  (∀ (x0 : Nat) (x1 : Nat) (x2 : Int32) (x3 : Int32) (x4 : Int32) (x5 : Int32) (x6 : Value) (x7 : Value) (st : List Value) (h : AH) (Q : Option Value → AH → Prop), WP 12 15 [.ref x0, .ref x1, .int x2, .int x3, .int x4, .int x5, x6, x7] (st) h Q ↔ WP 12 16 [.ref x0, .ref x1, .int x2, .int x3, .int x4, .int x5, x6, x7] (.ref x0 :: st) h Q) ∧
  (∀ (x0 : Nat) (x1 : Nat) (x2 : Int32) (x3 : Int32) (x4 : Int32) (x5 : Int32) (x6 : Value) (x7 : Value) (y0 : Nat) (st : List Value) (h : AH) (Q : Option Value → AH → Prop) (ht : hT h y0 = 2), WP 12 16 [.ref x0, .ref x1, .int x2, .int x3, .int x4, .int x5, x6, x7] (.ref y0 :: st) h Q ↔ WP 12 19 [.ref x0, .ref x1, .int x2, .int x3, .int x4, .int x5, x6, x7] (.ref (hR h y0 1) :: st) h Q) ∧
  (∀ (x0 : Nat) (x1 : Nat) (x2 : Int32) (x3 : Int32) (x4 : Int32) (x5 : Int32) (x6 : Value) (x7 : Value) (st : List Value) (h : AH) (Q : Option Value → AH → Prop), WP 12 19 [.ref x0, .ref x1, .int x2, .int x3, .int x4, .int x5, x6, x7] (st) h Q ↔ WP 12 21 [.ref x0, .ref x1, .int x2, .int x3, .int x4, .int x5, x6, x7] (.int x5 :: st) h Q) ∧
  (∀ (x0 : Nat) (x1 : Nat) (x2 : Int32) (x3 : Int32) (x4 : Int32) (x5 : Int32) (x6 : Value) (x7 : Value) (st : List Value) (h : AH) (Q : Option Value → AH → Prop), WP 12 21 [.ref x0, .ref x1, .int x2, .int x3, .int x4, .int x5, x6, x7] (st) h Q ↔ WP 12 22 [.ref x0, .ref x1, .int x2, .int x3, .int x4, .int x5, x6, x7] (.int x2 :: st) h Q) ∧
  (∀ (x0 : Nat) (x1 : Nat) (x2 : Int32) (x3 : Int32) (x4 : Int32) (x5 : Int32) (x6 : Value) (x7 : Value) (st : List Value) (h : AH) (Q : Option Value → AH → Prop), WP 12 22 [.ref x0, .ref x1, .int x2, .int x3, .int x4, .int x5, x6, x7] (st) h Q ↔ WP 12 23 [.ref x0, .ref x1, .int x2, .int x3, .int x4, .int x5, x6, x7] (.int x3 :: st) h Q) ∧
  (∀ (x0 : Nat) (x1 : Nat) (x2 : Int32) (x3 : Int32) (x4 : Int32) (x5 : Int32) (x6 : Value) (x7 : Value) (y3 : Nat) (y2 : Int32) (y1 : Int32) (y0 : Int32) (h : AH) (Q : Option Value → AH → Prop) (ht : hT h y3 = 1), WP 12 23 [.ref x0, .ref x1, .int x2, .int x3, .int x4, .int x5, x6, x7] ([.int y0, .int y1, .int y2, .ref y3]) h Q ↔ WPM 7 [.ref y3, .int y2, .int y1, .int y0] h (fun r h' => WP 12 26 [.ref x0, .ref x1, .int x2, .int x3, .int x4, .int x5, x6, x7] (r.toList ++ []) h' Q)) ∧
  (∀ (x0 : Nat) (x1 : Nat) (x2 : Int32) (x3 : Int32) (x4 : Int32) (x5 : Int32) (x6 : Value) (x7 : Value) (y0 : Int32) (st : List Value) (h : AH) (Q : Option Value → AH → Prop), WP 12 26 [.ref x0, .ref x1, .int x2, .int x3, .int x4, .int x5, x6, x7] (.int y0 :: st) h Q ↔ WP 12 28 [.ref x0, .ref x1, .int x2, .int x3, .int x4, .int x5, .int y0, x7] (st) h Q) ∧
  (∀ (x0 : Nat) (x1 : Nat) (x2 : Int32) (x3 : Int32) (x4 : Int32) (x5 : Int32) (x6 : Int32) (x7 : Value) (st : List Value) (h : AH) (Q : Option Value → AH → Prop), WP 12 28 [.ref x0, .ref x1, .int x2, .int x3, .int x4, .int x5, .int x6, x7] (st) h Q ↔ WP 12 30 [.ref x0, .ref x1, .int x2, .int x3, .int x4, .int x5, .int x6, x7] (.int x6 :: st) h Q) ∧
  (∀ (x0 : Nat) (x1 : Nat) (x2 : Int32) (x3 : Int32) (x4 : Int32) (x5 : Int32) (x6 : Int32) (x7 : Value) (y0 : Int32) (st : List Value) (h : AH) (Q : Option Value → AH → Prop), WP 12 30 [.ref x0, .ref x1, .int x2, .int x3, .int x4, .int x5, .int x6, x7] (.int y0 :: st) h Q ↔ ((0 ≤ y0 → WP 12 36 [.ref x0, .ref x1, .int x2, .int x3, .int x4, .int x5, .int x6, x7] (st) h Q) ∧ (¬ 0 ≤ y0 → WP 12 33 [.ref x0, .ref x1, .int x2, .int x3, .int x4, .int x5, .int x6, x7] (st) h Q))) ∧
  (∀ (x0 : Nat) (x1 : Nat) (x2 : Int32) (x3 : Int32) (x4 : Int32) (x5 : Int32) (x6 : Int32) (x7 : Value) (st : List Value) (h : AH) (Q : Option Value → AH → Prop), WP 12 33 [.ref x0, .ref x1, .int x2, .int x3, .int x4, .int x5, .int x6, x7] (st) h Q ↔ WP 12 108 [.ref x0, .ref x1, .int x2, .int x3, .int x4, .int x5, .int x6, x7] (st) h Q) ∧
  (∀ (x0 : Nat) (x1 : Nat) (x2 : Int32) (x3 : Int32) (x4 : Int32) (x5 : Int32) (x6 : Int32) (x7 : Value) (st : List Value) (h : AH) (Q : Option Value → AH → Prop), WP 12 36 [.ref x0, .ref x1, .int x2, .int x3, .int x4, .int x5, .int x6, x7] (st) h Q ↔ WP 12 37 [.ref x0, .ref x1, .int x2, .int x3, .int x4, .int x5, .int x6, x7] (.ref x0 :: st) h Q) ∧
  (∀ (x0 : Nat) (x1 : Nat) (x2 : Int32) (x3 : Int32) (x4 : Int32) (x5 : Int32) (x6 : Int32) (x7 : Value) (y0 : Nat) (st : List Value) (h : AH) (Q : Option Value → AH → Prop) (ht : hT h y0 = 2), WP 12 37 [.ref x0, .ref x1, .int x2, .int x3, .int x4, .int x5, .int x6, x7] (.ref y0 :: st) h Q ↔ WP 12 40 [.ref x0, .ref x1, .int x2, .int x3, .int x4, .int x5, .int x6, x7] (.ref (hR h y0 4) :: st) h Q) ∧
  (∀ (x0 : Nat) (x1 : Nat) (x2 : Int32) (x3 : Int32) (x4 : Int32) (x5 : Int32) (x6 : Int32) (x7 : Value) (st : List Value) (h : AH) (Q : Option Value → AH → Prop), WP 12 40 [.ref x0, .ref x1, .int x2, .int x3, .int x4, .int x5, .int x6, x7] (st) h Q ↔ WP 12 41 [.ref x0, .ref x1, .int x2, .int x3, .int x4, .int x5, .int x6, x7] (.int x2 :: st) h Q) ∧
  (∀ (x0 : Nat) (x1 : Nat) (x2 : Int32) (x3 : Int32) (x4 : Int32) (x5 : Int32) (x6 : Int32) (x7 : Value) (y0 : Int32) (y1 : Nat) (st : List Value) (h : AH) (Q : Option Value → AH → Prop) (ht : hT h y1 = 100 ∨ hT h y1 = 110) (hi : inb y0 (hL h y1) = true), WP 12 41 [.ref x0, .ref x1, .int x2, .int x3, .int x4, .int x5, .int x6, x7] (.int y0 :: .ref y1 :: st) h Q ↔ WP 12 42 [.ref x0, .ref x1, .int x2, .int x3, .int x4, .int x5, .int x6, x7] (.int (hI h y1 y0.toNatClampNeg) :: st) h Q) ∧
  (∀ (x0 : Nat) (x1 : Nat) (x2 : Int32) (x3 : Int32) (x4 : Int32) (x5 : Int32) (x6 : Int32) (x7 : Value) (st : List Value) (h : AH) (Q : Option Value → AH → Prop), WP 12 42 [.ref x0, .ref x1, .int x2, .int x3, .int x4, .int x5, .int x6, x7] (st) h Q ↔ WP 12 43 [.ref x0, .ref x1, .int x2, .int x3, .int x4, .int x5, .int x6, x7] (.ref x1 :: st) h Q) ∧
  (∀ (x0 : Nat) (x1 : Nat) (x2 : Int32) (x3 : Int32) (x4 : Int32) (x5 : Int32) (x6 : Int32) (x7 : Value) (st : List Value) (h : AH) (Q : Option Value → AH → Prop), WP 12 43 [.ref x0, .ref x1, .int x2, .int x3, .int x4, .int x5, .int x6, x7] (st) h Q ↔ WP 12 44 [.ref x0, .ref x1, .int x2, .int x3, .int x4, .int x5, .int x6, x7] (.ref x0 :: st) h Q) ∧
  (∀ (x0 : Nat) (x1 : Nat) (x2 : Int32) (x3 : Int32) (x4 : Int32) (x5 : Int32) (x6 : Int32) (x7 : Value) (y0 : Nat) (st : List Value) (h : AH) (Q : Option Value → AH → Prop) (ht : hT h y0 = 2), WP 12 44 [.ref x0, .ref x1, .int x2, .int x3, .int x4, .int x5, .int x6, x7] (.ref y0 :: st) h Q ↔ WP 12 47 [.ref x0, .ref x1, .int x2, .int x3, .int x4, .int x5, .int x6, x7] (.ref (hR h y0 1) :: st) h Q) ∧
  (∀ (x0 : Nat) (x1 : Nat) (x2 : Int32) (x3 : Int32) (x4 : Int32) (x5 : Int32) (x6 : Int32) (x7 : Value) (y0 : Nat) (st : List Value) (h : AH) (Q : Option Value → AH → Prop) (ht : hT h y0 = 1), WP 12 47 [.ref x0, .ref x1, .int x2, .int x3, .int x4, .int x5, .int x6, x7] (.ref y0 :: st) h Q ↔ WP 12 50 [.ref x0, .ref x1, .int x2, .int x3, .int x4, .int x5, .int x6, x7] (.ref (hR h y0 3) :: st) h Q) ∧
  (∀ (x0 : Nat) (x1 : Nat) (x2 : Int32) (x3 : Int32) (x4 : Int32) (x5 : Int32) (x6 : Int32) (x7 : Value) (st : List Value) (h : AH) (Q : Option Value → AH → Prop), WP 12 50 [.ref x0, .ref x1, .int x2, .int x3, .int x4, .int x5, .int x6, x7] (st) h Q ↔ WP 12 52 [.ref x0, .ref x1, .int x2, .int x3, .int x4, .int x5, .int x6, x7] (.int x5 :: st) h Q) ∧
  (∀ (x0 : Nat) (x1 : Nat) (x2 : Int32) (x3 : Int32) (x4 : Int32) (x5 : Int32) (x6 : Int32) (x7 : Value) (y0 : Int32) (y1 : Nat) (st : List Value) (h : AH) (Q : Option Value → AH → Prop) (ht : hT h y1 = 100 ∨ hT h y1 = 110) (hi : inb y0 (hL h y1) = true), WP 12 52 [.ref x0, .ref x1, .int x2, .int x3, .int x4, .int x5, .int x6, x7] (.int y0 :: .ref y1 :: st) h Q ↔ WP 12 53 [.ref x0, .ref x1, .int x2, .int x3, .int x4, .int x5, .int x6, x7] (.int (hI h y1 y0.toNatClampNeg) :: st) h Q) ∧
  (∀ (x0 : Nat) (x1 : Nat) (x2 : Int32) (x3 : Int32) (x4 : Int32) (x5 : Int32) (x6 : Int32) (x7 : Value) (st : List Value) (h : AH) (Q : Option Value → AH → Prop), WP 12 53 [.ref x0, .ref x1, .int x2, .int x3, .int x4, .int x5, .int x6, x7] (st) h Q ↔ WP 12 55 [.ref x0, .ref x1, .int x2, .int x3, .int x4, .int x5, .int x6, x7] (.int x4 :: st) h Q) ∧
  (∀ (x0 : Nat) (x1 : Nat) (x2 : Int32) (x3 : Int32) (x4 : Int32) (x5 : Int32) (x6 : Int32) (x7 : Value) (y3 : Int32) (y2 : Nat) (y1 : Int32) (y0 : Int32) (h : AH) (Q : Option Value → AH → Prop), WP 12 55 [.ref x0, .ref x1, .int x2, .int x3, .int x4, .int x5, .int x6, x7] ([.int y0, .int y1, .ref y2, .int y3]) h Q ↔ WPM 13 [.ref y2, .int y1, .int y0] h (fun r h' => WP 12 58 [.ref x0, .ref x1, .int x2, .int x3, .int x4, .int x5, .int x6, x7] (r.toList ++ [.int y3]) h' Q)) ∧
  (∀ (x0 : Nat) (x1 : Nat) (x2 : Int32) (x3 : Int32) (x4 : Int32) (x5 : Int32) (x6 : Int32) (x7 : Value) (y0 : Int32) (y1 : Int32) (st : List Value) (h : AH) (Q : Option Value → AH → Prop), WP 12 58 [.ref x0, .ref x1, .int x2, .int x3, .int x4, .int x5, .int x6, x7] (.int y0 :: .int y1 :: st) h Q ↔ WP 12 59 [.ref x0, .ref x1, .int x2, .int x3, .int x4, .int x5, .int x6, x7] (.int (y1 + y0) :: st) h Q) ∧
  (∀ (x0 : Nat) (x1 : Nat) (x2 : Int32) (x3 : Int32) (x4 : Int32) (x5 : Int32) (x6 : Int32) (x7 : Value) (y0 : Int32) (st : List Value) (h : AH) (Q : Option Value → AH → Prop), WP 12 59 [.ref x0, .ref x1, .int x2, .int x3, .int x4, .int x5, .int x6, x7] (.int y0 :: st) h Q ↔ WP 12 61 [.ref x0, .ref x1, .int x2, .int x3, .int x4, .int x5, .int x6, .int y0] (st) h Q) ∧
  (∀ (x0 : Nat) (x1 : Nat) (x2 : Int32) (x3 : Int32) (x4 : Int32) (x5 : Int32) (x6 : Int32) (x7 : Int32) (st : List Value) (h : AH) (Q : Option Value → AH → Prop), WP 12 61 [.ref x0, .ref x1, .int x2, .int x3, .int x4, .int x5, .int x6, .int x7] (st) h Q ↔ WP 12 62 [.ref x0, .ref x1, .int x2, .int x3, .int x4, .int x5, .int x6, .int x7] (.ref x0 :: st) h Q) ∧
  (∀ (x0 : Nat) (x1 : Nat) (x2 : Int32) (x3 : Int32) (x4 : Int32) (x5 : Int32) (x6 : Int32) (x7 : Int32) (y0 : Nat) (st : List Value) (h : AH) (Q : Option Value → AH → Prop) (ht : hT h y0 = 2), WP 12 62 [.ref x0, .ref x1, .int x2, .int x3, .int x4, .int x5, .int x6, .int x7] (.ref y0 :: st) h Q ↔ WP 12 65 [.ref x0, .ref x1, .int x2, .int x3, .int x4, .int x5, .int x6, .int x7] (.ref (hR h y0 4) :: st) h Q) ∧
  (∀ (x0 : Nat) (x1 : Nat) (x2 : Int32) (x3 : Int32) (x4 : Int32) (x5 : Int32) (x6 : Int32) (x7 : Int32) (st : List Value) (h : AH) (Q : Option Value → AH → Prop), WP 12 65 [.ref x0, .ref x1, .int x2, .int x3, .int x4, .int x5, .int x6, .int x7] (st) h Q ↔ WP 12 67 [.ref x0, .ref x1, .int x2, .int x3, .int x4, .int x5, .int x6, .int x7] (.int x6 :: st) h Q) ∧
  (∀ (x0 : Nat) (x1 : Nat) (x2 : Int32) (x3 : Int32) (x4 : Int32) (x5 : Int32) (x6 : Int32) (x7 : Int32) (y0 : Int32) (y1 : Nat) (st : List Value) (h : AH) (Q : Option Value → AH → Prop) (ht : hT h y1 = 100 ∨ hT h y1 = 110) (hi : inb y0 (hL h y1) = true), WP 12 67 [.ref x0, .ref x1, .int x2, .int x3, .int x4, .int x5, .int x6, .int x7] (.int y0 :: .ref y1 :: st) h Q ↔ WP 12 68 [.ref x0, .ref x1, .int x2, .int x3, .int x4, .int x5, .int x6, .int x7] (.int (hI h y1 y0.toNatClampNeg) :: st) h Q) ∧
  (∀ (x0 : Nat) (x1 : Nat) (x2 : Int32) (x3 : Int32) (x4 : Int32) (x5 : Int32) (x6 : Int32) (x7 : Int32) (y0 : Int32) (st : List Value) (h : AH) (Q : Option Value → AH → Prop), WP 12 68 [.ref x0, .ref x1, .int x2, .int x3, .int x4, .int x5, .int x6, .int x7] (.int y0 :: st) h Q ↔ ((0 ≤ y0 → WP 12 82 [.ref x0, .ref x1, .int x2, .int x3, .int x4, .int x5, .int x6, .int x7] (st) h Q) ∧ (¬ 0 ≤ y0 → WP 12 71 [.ref x0, .ref x1, .int x2, .int x3, .int x4, .int x5, .int x6, .int x7] (st) h Q))) ∧
  (∀ (x0 : Nat) (x1 : Nat) (x2 : Int32) (x3 : Int32) (x4 : Int32) (x5 : Int32) (x6 : Int32) (x7 : Int32) (st : List Value) (h : AH) (Q : Option Value → AH → Prop), WP 12 71 [.ref x0, .ref x1, .int x2, .int x3, .int x4, .int x5, .int x6, .int x7] (st) h Q ↔ WP 12 72 [.ref x0, .ref x1, .int x2, .int x3, .int x4, .int x5, .int x6, .int x7] (.ref x0 :: st) h Q) ∧
  (∀ (x0 : Nat) (x1 : Nat) (x2 : Int32) (x3 : Int32) (x4 : Int32) (x5 : Int32) (x6 : Int32) (x7 : Int32) (st : List Value) (h : AH) (Q : Option Value → AH → Prop), WP 12 72 [.ref x0, .ref x1, .int x2, .int x3, .int x4, .int x5, .int x6, .int x7] (st) h Q ↔ WP 12 74 [.ref x0, .ref x1, .int x2, .int x3, .int x4, .int x5, .int x6, .int x7] (.int x6 :: st) h Q) ∧
  (∀ (x0 : Nat) (x1 : Nat) (x2 : Int32) (x3 : Int32) (x4 : Int32) (x5 : Int32) (x6 : Int32) (x7 : Int32) (st : List Value) (h : AH) (Q : Option Value → AH → Prop), WP 12 74 [.ref x0, .ref x1, .int x2, .int x3, .int x4, .int x5, .int x6, .int x7] (st) h Q ↔ WP 12 76 [.ref x0, .ref x1, .int x2, .int x3, .int x4, .int x5, .int x6, .int x7] (.int x7 :: st) h Q) ∧
  (∀ (x0 : Nat) (x1 : Nat) (x2 : Int32) (x3 : Int32) (x4 : Int32) (x5 : Int32) (x6 : Int32) (x7 : Int32) (y2 : Nat) (y1 : Int32) (y0 : Int32) (h : AH) (Q : Option Value → AH → Prop) (ht : hT h y2 = 2), WP 12 76 [.ref x0, .ref x1, .int x2, .int x3, .int x4, .int x5, .int x6, .int x7] ([.int y0, .int y1, .ref y2]) h Q ↔ WPM 15 [.ref y2, .int y1, .int y0] h (fun r h' => WP 12 79 [.ref x0, .ref x1, .int x2, .int x3, .int x4, .int x5, .int x6, .int x7] (r.toList ++ []) h' Q)) ∧
  (∀ (x0 : Nat) (x1 : Nat) (x2 : Int32) (x3 : Int32) (x4 : Int32) (x5 : Int32) (x6 : Int32) (x7 : Int32) (st : List Value) (h : AH) (Q : Option Value → AH → Prop), WP 12 79 [.ref x0, .ref x1, .int x2, .int x3, .int x4, .int x5, .int x6, .int x7] (st) h Q ↔ WP 12 108 [.ref x0, .ref x1, .int x2, .int x3, .int x4, .int x5, .int x6, .int x7] (st) h Q) :=
  ⟨fun _ _ _ _ _ _ _ _ => WP_s (show ct 12 0 = some (.iconst 0, 0, []) by decide +kernel) rfl,
  fun _ _ _ _ _ _ _ _ _ => WP_s (show ct 12 1 = some (.istore 5, 0, []) by decide +kernel) rfl,
  fun _ _ _ _ _ _ _ _ _ _ _ => WP_s (show ct 12 5 = some (.aload_n 0, 0, []) by decide +kernel) rfl,
  fun _ _ _ _ _ _ _ _ _ _ _ _ ht => WH_gR (show ct 12 6 = some (.getfield 28, 1, [1, 1, 2, 497]) by decide +kernel) ht,
  fun _ _ _ _ _ _ _ _ _ _ _ _ ht => WH_gI (show ct 12 9 = some (.getfield 82, 1, [0, 0, 0, 352]) by decide +kernel) (by decide) ht,
  fun _ _ _ _ _ _ _ _ _ _ _ _ _ => WI_ge (show ct 12 12 = some (.if_icmp .ge 102, 0, [114]) by decide +kernel) (by decide),
  fun _ _ _ _ _ _ _ _ _ _ _ => WP_s (show ct 12 15 = some (.aload_n 0, 0, []) by decide +kernel) rfl,
  fun _ _ _ _ _ _ _ _ _ _ _ _ ht => WH_gR (show ct 12 16 = some (.getfield 28, 1, [1, 1, 2, 497]) by decide +kernel) ht,
  fun _ _ _ _ _ _ _ _ _ _ _ => WP_s (show ct 12 19 = some (.iload 5, 0, []) by decide +kernel) rfl,
  fun _ _ _ _ _ _ _ _ _ _ _ => WP_s (show ct 12 21 = some (.iload_n 2, 0, []) by decide +kernel) rfl,
  fun _ _ _ _ _ _ _ _ _ _ _ => WP_s (show ct 12 22 = some (.iload_n 3, 0, []) by decide +kernel) rfl,
  fun _ _ _ _ _ _ _ _ _ _ _ _ _ _ ht => WC_1 (show ct 12 23 = some (.invokevirtual 85, 3, [7, 4, 1, 1, 0, 937, 826, 827]) by decide +kernel) (Nat.le_of_ble_eq_true rfl) (Nat.le_of_ble_eq_true rfl) rfl rfl ht,
  fun _ _ _ _ _ _ _ _ _ _ _ _ => WP_s (show ct 12 26 = some (.istore 6, 0, []) by decide +kernel) rfl,
  fun _ _ _ _ _ _ _ _ _ _ _ => WP_s (show ct 12 28 = some (.iload 6, 0, []) by decide +kernel) rfl,
  fun _ _ _ _ _ _ _ _ _ _ _ _ => WZ_ge (show ct 12 30 = some (.ifCond .ge 6, 0, [36]) by decide +kernel) (by decide),
  fun _ _ _ _ _ _ _ _ _ _ _ => WP_s (show ct 12 33 = some (.goto 75, 0, [108]) by decide +kernel) rfl,
  fun _ _ _ _ _ _ _ _ _ _ _ => WP_s (show ct 12 36 = some (.aload_n 0, 0, []) by decide +kernel) rfl,
  fun _ _ _ _ _ _ _ _ _ _ _ _ ht => WH_gR (show ct 12 37 = some (.getfield 15, 1, [1, 4, 2, 500]) by decide +kernel) ht,
  fun _ _ _ _ _ _ _ _ _ _ _ => WP_s (show ct 12 40 = some (.iload_n 2, 0, []) by decide +kernel) rfl,
  fun _ _ _ _ _ _ _ _ _ _ _ _ _ ht hi => WH_iald (show ct 12 41 = some (.iaload, 1, []) by decide +kernel) ht hi,
  fun _ _ _ _ _ _ _ _ _ _ _ => WP_s (show ct 12 42 = some (.aload_n 1, 0, []) by decide +kernel) rfl,
  fun _ _ _ _ _ _ _ _ _ _ _ => WP_s (show ct 12 43 = some (.aload_n 0, 0, []) by decide +kernel) rfl,
  fun _ _ _ _ _ _ _ _ _ _ _ _ ht => WH_gR (show ct 12 44 = some (.getfield 28, 1, [1, 1, 2, 497]) by decide +kernel) ht,
  fun _ _ _ _ _ _ _ _ _ _ _ _ ht => WH_gR (show ct 12 47 = some (.getfield 89, 1, [0, 3, 2, 360]) by decide +kernel) ht,
  fun _ _ _ _ _ _ _ _ _ _ _ => WP_s (show ct 12 50 = some (.iload 5, 0, []) by decide +kernel) rfl,
  fun _ _ _ _ _ _ _ _ _ _ _ _ _ ht hi => WH_iald (show ct 12 52 = some (.iaload, 1, []) by decide +kernel) ht hi,
  fun _ _ _ _ _ _ _ _ _ _ _ => WP_s (show ct 12 53 = some (.iload 4, 0, []) by decide +kernel) rfl,
  fun _ _ _ _ _ _ _ _ _ _ _ _ _ _ => WC_0 (show ct 12 55 = some (.invokestatic 92, 3, [13, 3, 0, 0, 0, 938, 939, 0]) by decide +kernel) (Nat.le_of_ble_eq_true rfl) (Nat.le_of_ble_eq_true rfl) rfl rfl,
  fun _ _ _ _ _ _ _ _ _ _ _ _ _ => WP_s (show ct 12 58 = some (.iadd, 0, []) by decide +kernel) rfl,
  fun _ _ _ _ _ _ _ _ _ _ _ _ => WP_s (show ct 12 59 = some (.istore 7, 0, []) by decide +kernel) rfl,
  fun _ _ _ _ _ _ _ _ _ _ _ => WP_s (show ct 12 61 = some (.aload_n 0, 0, []) by decide +kernel) rfl,
  fun _ _ _ _ _ _ _ _ _ _ _ _ ht => WH_gR (show ct 12 62 = some (.getfield 15, 1, [1, 4, 2, 500]) by decide +kernel) ht,
  fun _ _ _ _ _ _ _ _ _ _ _ => WP_s (show ct 12 65 = some (.iload 6, 0, []) by decide +kernel) rfl,
  fun _ _ _ _ _ _ _ _ _ _ _ _ _ ht hi => WH_iald (show ct 12 67 = some (.iaload, 1, []) by decide +kernel) ht hi,
  fun _ _ _ _ _ _ _ _ _ _ _ _ => WZ_ge (show ct 12 68 = some (.ifCond .ge 14, 0, [82]) by decide +kernel) (by decide),
  fun _ _ _ _ _ _ _ _ _ _ _ => WP_s (show ct 12 71 = some (.aload_n 0, 0, []) by decide +kernel) rfl,
  fun _ _ _ _ _ _ _ _ _ _ _ => WP_s (show ct 12 72 = some (.iload 6, 0, []) by decide +kernel) rfl,
  fun _ _ _ _ _ _ _ _ _ _ _ => WP_s (show ct 12 74 = some (.iload 7, 0, []) by decide +kernel) rfl,
  fun _ _ _ _ _ _ _ _ _ _ _ _ _ ht => WC_1 (show ct 12 76 = some (.invokevirtual 48, 3, [15, 3, 1, 2, 0, 920, 922, 32]) by decide +kernel) (Nat.le_of_ble_eq_true rfl) (Nat.le_of_ble_eq_true rfl) rfl rfl ht,
  fun _ _ _ _ _ _ _ _ _ _ _ => WP_s (show ct 12 79 = some (.goto 29, 0, [108]) by decide +kernel) rfl⟩
set_option maxRecDepth 10000 in
theorem w12_b : (∀ (x0 : Nat) (x1 : Nat) (x2 : Int32) (x3 : Int32) (x4 : Int32) (x5 : Int32) (x6 : Int32) (x7 : Int32) (st : List Value) (h : AH) (Q : Option Value → AH → Prop), WP 12 82 [.ref x0, .ref x1, .int x2, .int x3, .int x4, .int x5, .int x6, .int x7] (st) h Q ↔ WP 12 84 [.ref x0, .ref x1, .int x2, .int x3, .int x4, .int x5, .int x6, .int x7] (.int x7 :: st) h Q) ∧
  (∀ (x0 : Nat) (x1 : Nat) (x2 : Int32) (x3 : Int32) (x4 : Int32) (x5 : Int32) (x6 : Int32) (x7 : Int32) (st : List Value) (h : AH) (Q : Option Value → AH → Prop), WP 12 84 [.ref x0, .ref x1, .int x2, .int x3, .int x4, .int x5, .int x6, .int x7] (st) h Q ↔ WP 12 85 [.ref x0, .ref x1, .int x2, .int x3, .int x4, .int x5, .int x6, .int x7] (.ref x0 :: st) h Q) ∧
  (∀ (x0 : Nat) (x1 : Nat) (x2 : Int32) (x3 : Int32) (x4 : Int32) (x5 : Int32) (x6 : Int32) (x7 : Int32) (y0 : Nat) (st : List Value) (h : AH) (Q : Option Value → AH → Prop) (ht : hT h y0 = 2), WP 12 85 [.ref x0, .ref x1, .int x2, .int x3, .int x4, .int x5, .int x6, .int x7] (.ref y0 :: st) h Q ↔ WP 12 88 [.ref x0, .ref x1, .int x2, .int x3, .int x4, .int x5, .int x6, .int x7] (.ref (hR h y0 4) :: st) h Q) ∧
  (∀ (x0 : Nat) (x1 : Nat) (x2 : Int32) (x3 : Int32) (x4 : Int32) (x5 : Int32) (x6 : Int32) (x7 : Int32) (st : List Value) (h : AH) (Q : Option Value → AH → Prop), WP 12 88 [.ref x0, .ref x1, .int x2, .int x3, .int x4, .int x5, .int x6, .int x7] (st) h Q ↔ WP 12 90 [.ref x0, .ref x1, .int x2, .int x3, .int x4, .int x5, .int x6, .int x7] (.int x6 :: st) h Q) ∧
  (∀ (x0 : Nat) (x1 : Nat) (x2 : Int32) (x3 : Int32) (x4 : Int32) (x5 : Int32) (x6 : Int32) (x7 : Int32) (y0 : Int32) (y1 : Nat) (st : List Value) (h : AH) (Q : Option Value → AH → Prop) (ht : hT h y1 = 100 ∨ hT h y1 = 110) (hi : inb y0 (hL h y1) = true), WP 12 90 [.ref x0, .ref x1, .int x2, .int x3, .int x4, .int x5, .int x6, .int x7] (.int y0 :: .ref y1 :: st) h Q ↔ WP 12 91 [.ref x0, .ref x1, .int x2, .int x3, .int x4, .int x5, .int x6, .int x7] (.int (hI h y1 y0.toNatClampNeg) :: st) h Q) ∧
  (∀ (x0 : Nat) (x1 : Nat) (x2 : Int32) (x3 : Int32) (x4 : Int32) (x5 : Int32) (x6 : Int32) (x7 : Int32) (y0 : Int32) (y1 : Int32) (st : List Value) (h : AH) (Q : Option Value → AH → Prop), WP 12 91 [.ref x0, .ref x1, .int x2, .int x3, .int x4, .int x5, .int x6, .int x7] (.int y0 :: .int y1 :: st) h Q ↔ ((y0 ≤ y1 → WP 12 108 [.ref x0, .ref x1, .int x2, .int x3, .int x4, .int x5, .int x6, .int x7] (st) h Q) ∧ (¬ y0 ≤ y1 → WP 12 94 [.ref x0, .ref x1, .int x2, .int x3, .int x4, .int x5, .int x6, .int x7] (st) h Q))) ∧
  (∀ (x0 : Nat) (x1 : Nat) (x2 : Int32) (x3 : Int32) (x4 : Int32) (x5 : Int32) (x6 : Int32) (x7 : Int32) (st : List Value) (h : AH) (Q : Option Value → AH → Prop), WP 12 94 [.ref x0, .ref x1, .int x2, .int x3, .int x4, .int x5, .int x6, .int x7] (st) h Q ↔ WP 12 95 [.ref x0, .ref x1, .int x2, .int x3, .int x4, .int x5, .int x6, .int x7] (.ref x0 :: st) h Q) ∧
  (∀ (x0 : Nat) (x1 : Nat) (x2 : Int32) (x3 : Int32) (x4 : Int32) (x5 : Int32) (x6 : Int32) (x7 : Int32) (st : List Value) (h : AH) (Q : Option Value → AH → Prop), WP 12 95 [.ref x0, .ref x1, .int x2, .int x3, .int x4, .int x5, .int x6, .int x7] (st) h Q ↔ WP 12 97 [.ref x0, .ref x1, .int x2, .int x3, .int x4, .int x5, .int x6, .int x7] (.int x6 :: st) h Q) ∧
  (∀ (x0 : Nat) (x1 : Nat) (x2 : Int32) (x3 : Int32) (x4 : Int32) (x5 : Int32) (x6 : Int32) (x7 : Int32) (y1 : Nat) (y0 : Int32) (h : AH) (Q : Option Value → AH → Prop) (ht : hT h y1 = 2), WP 12 97 [.ref x0, .ref x1, .int x2, .int x3, .int x4, .int x5, .int x6, .int x7] ([.int y0, .ref y1]) h Q ↔ WPM 16 [.ref y1, .int y0] h (fun r h' => WP 12 100 [.ref x0, .ref x1, .int x2, .int x3, .int x4, .int x5, .int x6, .int x7] (r.toList ++ []) h' Q)) ∧
  (∀ (x0 : Nat) (x1 : Nat) (x2 : Int32) (x3 : Int32) (x4 : Int32) (x5 : Int32) (x6 : Int32) (x7 : Int32) (st : List Value) (h : AH) (Q : Option Value → AH → Prop), WP 12 100 [.ref x0, .ref x1, .int x2, .int x3, .int x4, .int x5, .int x6, .int x7] (st) h Q ↔ WP 12 101 [.ref x0, .ref x1, .int x2, .int x3, .int x4, .int x5, .int x6, .int x7] (.ref x0 :: st) h Q) ∧
  (∀ (x0 : Nat) (x1 : Nat) (x2 : Int32) (x3 : Int32) (x4 : Int32) (x5 : Int32) (x6 : Int32) (x7 : Int32) (st : List Value) (h : AH) (Q : Option Value → AH → Prop), WP 12 101 [.ref x0, .ref x1, .int x2, .int x3, .int x4, .int x5, .int x6, .int x7] (st) h Q ↔ WP 12 103 [.ref x0, .ref x1, .int x2, .int x3, .int x4, .int x5, .int x6, .int x7] (.int x6 :: st) h Q) ∧
  (∀ (x0 : Nat) (x1 : Nat) (x2 : Int32) (x3 : Int32) (x4 : Int32) (x5 : Int32) (x6 : Int32) (x7 : Int32) (st : List Value) (h : AH) (Q : Option Value → AH → Prop), WP 12 103 [.ref x0, .ref x1, .int x2, .int x3, .int x4, .int x5, .int x6, .int x7] (st) h Q ↔ WP 12 105 [.ref x0, .ref x1, .int x2, .int x3, .int x4, .int x5, .int x6, .int x7] (.int x7 :: st) h Q) ∧
  (∀ (x0 : Nat) (x1 : Nat) (x2 : Int32) (x3 : Int32) (x4 : Int32) (x5 : Int32) (x6 : Int32) (x7 : Int32) (y2 : Nat) (y1 : Int32) (y0 : Int32) (h : AH) (Q : Option Value → AH → Prop) (ht : hT h y2 = 2), WP 12 105 [.ref x0, .ref x1, .int x2, .int x3, .int x4, .int x5, .int x6, .int x7] ([.int y0, .int y1, .ref y2]) h Q ↔ WPM 15 [.ref y2, .int y1, .int y0] h (fun r h' => WP 12 108 [.ref x0, .ref x1, .int x2, .int x3, .int x4, .int x5, .int x6, .int x7] (r.toList ++ []) h' Q)) ∧
  (∀ (x0 : Nat) (x1 : Nat) (x2 : Int32) (x3 : Int32) (x4 : Int32) (x5 : Int32) (x6 : Int32) (x7 : Value) (st : List Value) (h : AH) (Q : Option Value → AH → Prop), WP 12 108 [.ref x0, .ref x1, .int x2, .int x3, .int x4, .int x5, .int x6, x7] (st) h Q ↔ WP 12 111 [.ref x0, .ref x1, .int x2, .int x3, .int x4, .int (x5 + (1)), .int x6, x7] (st) h Q) ∧
  (∀ (x0 : Nat) (x1 : Nat) (x2 : Int32) (x3 : Int32) (x4 : Int32) (x5 : Int32) (x6 : Int32) (x7 : Value) (st : List Value) (h : AH) (Q : Option Value → AH → Prop), WP 12 111 [.ref x0, .ref x1, .int x2, .int x3, .int x4, .int x5, .int x6, x7] (st) h Q ↔ WP 12 3 [.ref x0, .ref x1, .int x2, .int x3, .int x4, .int x5, .int x6, x7] (st) h Q) ∧
  (∀ (x0 : Nat) (x1 : Nat) (x2 : Int32) (x3 : Int32) (x4 : Int32) (x5 : Int32) (x6 : Value) (x7 : Value) (h : AH) (Q : Option Value → AH → Prop), WP 12 114 [.ref x0, .ref x1, .int x2, .int x3, .int x4, .int x5, x6, x7] ([]) h Q ↔ Q none h) :=
  ⟨fun _ _ _ _ _ _ _ _ _ _ _ => WP_s (show ct 12 82 = some (.iload 7, 0, []) by decide +kernel) rfl,
  fun _ _ _ _ _ _ _ _ _ _ _ => WP_s (show ct 12 84 = some (.aload_n 0, 0, []) by decide +kernel) rfl,
  fun _ _ _ _ _ _ _ _ _ _ _ _ ht => WH_gR (show ct 12 85 = some (.getfield 15, 1, [1, 4, 2, 500]) by decide +kernel) ht,
  fun _ _ _ _ _ _ _ _ _ _ _ => WP_s (show ct 12 88 = some (.iload 6, 0, []) by decide +kernel) rfl,
  fun _ _ _ _ _ _ _ _ _ _ _ _ _ ht hi => WH_iald (show ct 12 90 = some (.iaload, 1, []) by decide +kernel) ht hi,
  fun _ _ _ _ _ _ _ _ _ _ _ _ _ => WI_ge (show ct 12 91 = some (.if_icmp .ge 17, 0, [108]) by decide +kernel) (by decide),
  fun _ _ _ _ _ _ _ _ _ _ _ => WP_s (show ct 12 94 = some (.aload_n 0, 0, []) by decide +kernel) rfl,
  fun _ _ _ _ _ _ _ _ _ _ _ => WP_s (show ct 12 95 = some (.iload 6, 0, []) by decide +kernel) rfl,
  fun _ _ _ _ _ _ _ _ _ _ _ _ ht => WC_1 (show ct 12 97 = some (.invokevirtual 96, 3, [16, 2, 1, 2, 0, 928, 930, 34]) by decide +kernel) (Nat.le_of_ble_eq_true rfl) (Nat.le_of_ble_eq_true rfl) rfl rfl ht,
  fun _ _ _ _ _ _ _ _ _ _ _ => WP_s (show ct 12 100 = some (.aload_n 0, 0, []) by decide +kernel) rfl,
  fun _ _ _ _ _ _ _ _ _ _ _ => WP_s (show ct 12 101 = some (.iload 6, 0, []) by decide +kernel) rfl,
  fun _ _ _ _ _ _ _ _ _ _ _ => WP_s (show ct 12 103 = some (.iload 7, 0, []) by decide +kernel) rfl,
  fun _ _ _ _ _ _ _ _ _ _ _ _ _ ht => WC_1 (show ct 12 105 = some (.invokevirtual 48, 3, [15, 3, 1, 2, 0, 920, 922, 32]) by decide +kernel) (Nat.le_of_ble_eq_true rfl) (Nat.le_of_ble_eq_true rfl) rfl rfl ht,
  fun _ _ _ _ _ _ _ _ _ _ _ => WP_s (show ct 12 108 = some (.iinc 5 1, 0, []) by decide +kernel) rfl,
  fun _ _ _ _ _ _ _ _ _ _ _ => WP_s (show ct 12 111 = some (.goto (-108), 0, [3]) by decide +kernel) rfl,
  fun _ _ _ _ _ _ _ _ _ _ => WR_v (show ct 12 114 = some (.return_, 2, [0]) by decide +kernel)⟩
/-- all of 12 -/
def w12_n : Nat := 2
/-! 13: FewBowls$Cheapest.priceOf(LFewBowls$Net;II)I; loop heads [] -/
set_option maxRecDepth 10000 in
theorem w13 : (∀ (x0 : Nat) (x1 : Int32) (x2 : Int32) (st : List Value) (h : AH) (Q : Option Value → AH → Prop), WP 13 0 [.ref x0, .int x1, .int x2] (st) h Q ↔ WP 13 1 [.ref x0, .int x1, .int x2] (.int x1 :: st) h Q) ∧
  (∀ (x0 : Nat) (x1 : Int32) (x2 : Int32) (y0 : Int32) (st : List Value) (h : AH) (Q : Option Value → AH → Prop), WP 13 1 [.ref x0, .int x1, .int x2] (.int y0 :: st) h Q ↔ ((y0 < 0 → WP 13 12 [.ref x0, .int x1, .int x2] (st) h Q) ∧ (¬ y0 < 0 → WP 13 4 [.ref x0, .int x1, .int x2] (st) h Q))) ∧
  (∀ (x0 : Nat) (x1 : Int32) (x2 : Int32) (st : List Value) (h : AH) (Q : Option Value → AH → Prop), WP 13 4 [.ref x0, .int x1, .int x2] (st) h Q ↔ WP 13 5 [.ref x0, .int x1, .int x2] (.int x1 :: st) h Q) ∧
  (∀ (x0 : Nat) (x1 : Int32) (x2 : Int32) (st : List Value) (h : AH) (Q : Option Value → AH → Prop), WP 13 5 [.ref x0, .int x1, .int x2] (st) h Q ↔ WP 13 6 [.ref x0, .int x1, .int x2] (.ref x0 :: st) h Q) ∧
  (∀ (x0 : Nat) (x1 : Int32) (x2 : Int32) (y0 : Nat) (st : List Value) (h : AH) (Q : Option Value → AH → Prop) (ht : hT h y0 = 4), WP 13 6 [.ref x0, .int x1, .int x2] (.ref y0 :: st) h Q ↔ WP 13 9 [.ref x0, .int x1, .int x2] (.int (hI h y0 0) :: st) h Q) ∧
  (∀ (x0 : Nat) (x1 : Int32) (x2 : Int32) (y0 : Int32) (y1 : Int32) (st : List Value) (h : AH) (Q : Option Value → AH → Prop), WP 13 9 [.ref x0, .int x1, .int x2] (.int y0 :: .int y1 :: st) h Q ↔ ((y1 < y0 → WP 13 14 [.ref x0, .int x1, .int x2] (st) h Q) ∧ (¬ y1 < y0 → WP 13 12 [.ref x0, .int x1, .int x2] (st) h Q))) ∧
  (∀ (x0 : Nat) (x1 : Int32) (x2 : Int32) (st : List Value) (h : AH) (Q : Option Value → AH → Prop), WP 13 12 [.ref x0, .int x1, .int x2] (st) h Q ↔ WP 13 13 [.ref x0, .int x1, .int x2] (.int (0) :: st) h Q) ∧
  (∀ (x0 : Nat) (x1 : Int32) (x2 : Int32) (y0 : Int32) (h : AH) (Q : Option Value → AH → Prop), WP 13 13 [.ref x0, .int x1, .int x2] ([.int y0]) h Q ↔ Q (some (.int y0)) h) ∧
  (∀ (x0 : Nat) (x1 : Int32) (x2 : Int32) (st : List Value) (h : AH) (Q : Option Value → AH → Prop), WP 13 14 [.ref x0, .int x1, .int x2] (st) h Q ↔ WP 13 15 [.ref x0, .int x1, .int x2] (.int x2 :: st) h Q) ∧
  (∀ (x0 : Nat) (x1 : Int32) (x2 : Int32) (y0 : Int32) (st : List Value) (h : AH) (Q : Option Value → AH → Prop), WP 13 15 [.ref x0, .int x1, .int x2] (.int y0 :: st) h Q ↔ ((0 ≤ y0 → WP 13 25 [.ref x0, .int x1, .int x2] (st) h Q) ∧ (¬ 0 ≤ y0 → WP 13 18 [.ref x0, .int x1, .int x2] (st) h Q))) ∧
  (∀ (x0 : Nat) (x1 : Int32) (x2 : Int32) (st : List Value) (h : AH) (Q : Option Value → AH → Prop), WP 13 18 [.ref x0, .int x1, .int x2] (st) h Q ↔ WP 13 19 [.ref x0, .int x1, .int x2] (.ref x0 :: st) h Q) ∧
  (∀ (x0 : Nat) (x1 : Int32) (x2 : Int32) (y0 : Nat) (st : List Value) (h : AH) (Q : Option Value → AH → Prop) (ht : hT h y0 = 4), WP 13 19 [.ref x0, .int x1, .int x2] (.ref y0 :: st) h Q ↔ WP 13 22 [.ref x0, .int x1, .int x2] (.ref (hR h y0 5) :: st) h Q) ∧
  (∀ (x0 : Nat) (x1 : Int32) (x2 : Int32) (st : List Value) (h : AH) (Q : Option Value → AH → Prop), WP 13 22 [.ref x0, .int x1, .int x2] (st) h Q ↔ WP 13 23 [.ref x0, .int x1, .int x2] (.int x1 :: st) h Q) ∧
  (∀ (x0 : Nat) (x1 : Int32) (x2 : Int32) (y0 : Int32) (y1 : Nat) (st : List Value) (h : AH) (Q : Option Value → AH → Prop) (ht : hT h y1 = 100 ∨ hT h y1 = 110) (hi : inb y0 (hL h y1) = true), WP 13 23 [.ref x0, .int x1, .int x2] (.int y0 :: .ref y1 :: st) h Q ↔ WP 13 24 [.ref x0, .int x1, .int x2] (.int (hI h y1 y0.toNatClampNeg) :: st) h Q) ∧
  (∀ (x0 : Nat) (x1 : Int32) (x2 : Int32) (y0 : Int32) (h : AH) (Q : Option Value → AH → Prop), WP 13 24 [.ref x0, .int x1, .int x2] ([.int y0]) h Q ↔ Q (some (.int y0)) h) ∧
  (∀ (x0 : Nat) (x1 : Int32) (x2 : Int32) (st : List Value) (h : AH) (Q : Option Value → AH → Prop), WP 13 25 [.ref x0, .int x1, .int x2] (st) h Q ↔ WP 13 26 [.ref x0, .int x1, .int x2] (.int x1 :: st) h Q) ∧
  (∀ (x0 : Nat) (x1 : Int32) (x2 : Int32) (st : List Value) (h : AH) (Q : Option Value → AH → Prop), WP 13 26 [.ref x0, .int x1, .int x2] (st) h Q ↔ WP 13 27 [.ref x0, .int x1, .int x2] (.int x2 :: st) h Q) ∧
  (∀ (x0 : Nat) (x1 : Int32) (x2 : Int32) (y0 : Int32) (y1 : Int32) (st : List Value) (h : AH) (Q : Option Value → AH → Prop), WP 13 27 [.ref x0, .int x1, .int x2] (.int y0 :: .int y1 :: st) h Q ↔ ((¬ y1 = y0 → WP 13 34 [.ref x0, .int x1, .int x2] (st) h Q) ∧ (y1 = y0 → WP 13 30 [.ref x0, .int x1, .int x2] (st) h Q))) ∧
  (∀ (x0 : Nat) (x1 : Int32) (x2 : Int32) (st : List Value) (h : AH) (Q : Option Value → AH → Prop), WP 13 30 [.ref x0, .int x1, .int x2] (st) h Q ↔ WP 13 31 [.ref x0, .int x1, .int x2] (.int (1) :: st) h Q) ∧
  (∀ (x0 : Nat) (x1 : Int32) (x2 : Int32) (st : List Value) (h : AH) (Q : Option Value → AH → Prop), WP 13 31 [.ref x0, .int x1, .int x2] (st) h Q ↔ WP 13 35 [.ref x0, .int x1, .int x2] (st) h Q) ∧
  (∀ (x0 : Nat) (x1 : Int32) (x2 : Int32) (st : List Value) (h : AH) (Q : Option Value → AH → Prop), WP 13 34 [.ref x0, .int x1, .int x2] (st) h Q ↔ WP 13 35 [.ref x0, .int x1, .int x2] (.int (0) :: st) h Q) ∧
  (∀ (x0 : Nat) (x1 : Int32) (x2 : Int32) (y0 : Int32) (h : AH) (Q : Option Value → AH → Prop), WP 13 35 [.ref x0, .int x1, .int x2] ([.int y0]) h Q ↔ Q (some (.int y0)) h) :=
  ⟨fun _ _ _ _ _ _ => WP_s (show ct 13 0 = some (.iload_n 1, 0, []) by decide +kernel) rfl,
  fun _ _ _ _ _ _ _ => WZ_lt (show ct 13 1 = some (.ifCond .lt 11, 0, [12]) by decide +kernel) (by decide),
  fun _ _ _ _ _ _ => WP_s (show ct 13 4 = some (.iload_n 1, 0, []) by decide +kernel) rfl,
  fun _ _ _ _ _ _ => WP_s (show ct 13 5 = some (.aload_n 0, 0, []) by decide +kernel) rfl,
  fun _ _ _ _ _ _ _ ht => WH_gI (show ct 13 6 = some (.getfield 99, 1, [3, 0, 0, 137]) by decide +kernel) (by decide) ht,
  fun _ _ _ _ _ _ _ _ => WI_lt (show ct 13 9 = some (.if_icmp .lt 5, 0, [14]) by decide +kernel) (by decide),
  fun _ _ _ _ _ _ => WP_s (show ct 13 12 = some (.iconst 0, 0, []) by decide +kernel) rfl,
  fun _ _ _ _ _ _ => WR_i (show ct 13 13 = some (.ireturn, 2, [0]) by decide +kernel),
  fun _ _ _ _ _ _ => WP_s (show ct 13 14 = some (.iload_n 2, 0, []) by decide +kernel) rfl,
  fun _ _ _ _ _ _ _ => WZ_ge (show ct 13 15 = some (.ifCond .ge 10, 0, [25]) by decide +kernel) (by decide),
  fun _ _ _ _ _ _ => WP_s (show ct 13 18 = some (.aload_n 0, 0, []) by decide +kernel) rfl,
  fun _ _ _ _ _ _ _ ht => WH_gR (show ct 13 19 = some (.getfield 102, 1, [3, 5, 2, 159]) by decide +kernel) ht,
  fun _ _ _ _ _ _ => WP_s (show ct 13 22 = some (.iload_n 1, 0, []) by decide +kernel) rfl,
  fun _ _ _ _ _ _ _ _ ht hi => WH_iald (show ct 13 23 = some (.iaload, 1, []) by decide +kernel) ht hi,
  fun _ _ _ _ _ _ => WR_i (show ct 13 24 = some (.ireturn, 2, [0]) by decide +kernel),
  fun _ _ _ _ _ _ => WP_s (show ct 13 25 = some (.iload_n 1, 0, []) by decide +kernel) rfl,
  fun _ _ _ _ _ _ => WP_s (show ct 13 26 = some (.iload_n 2, 0, []) by decide +kernel) rfl,
  fun _ _ _ _ _ _ _ _ => WI_ne (show ct 13 27 = some (.if_icmp .ne 7, 0, [34]) by decide +kernel) (by decide),
  fun _ _ _ _ _ _ => WP_s (show ct 13 30 = some (.iconst 1, 0, []) by decide +kernel) rfl,
  fun _ _ _ _ _ _ => WP_s (show ct 13 31 = some (.goto 4, 0, [35]) by decide +kernel) rfl,
  fun _ _ _ _ _ _ => WP_s (show ct 13 34 = some (.iconst 0, 0, []) by decide +kernel) rfl,
  fun _ _ _ _ _ _ => WR_i (show ct 13 35 = some (.ireturn, 2, [0]) by decide +kernel)⟩
/-! 14: FewBowls$Cheapest.takeLeast()I; loop heads [2] -/
theorem w14_2 : ∀ (x0 : Nat) (x1 : Int32) (x2 : Value) (st : List Value) (h : AH) (Q : Option Value → AH → Prop), WP 14 2 [.ref x0, .int x1, x2, .retAddr 0] (st) h Q ↔ WP 14 3 [.ref x0, .int x1, x2, .retAddr 0] (.int x1 :: st) h Q := fun _ _ _ _ _ _ => WP_s (show ct 14 2 = some (.iload_n 1, 0, []) by decide +kernel) rfl
set_option maxRecDepth 10000 in
theorem w14 : (∀ (x0 : Nat) (st : List Value) (h : AH) (Q : Option Value → AH → Prop), WP 14 0 [.ref x0, .retAddr 0, .retAddr 0, .retAddr 0] (st) h Q ↔ WP 14 1 [.ref x0, .retAddr 0, .retAddr 0, .retAddr 0] (.int (0) :: st) h Q) ∧
  (∀ (x0 : Nat) (y0 : Int32) (st : List Value) (h : AH) (Q : Option Value → AH → Prop), WP 14 1 [.ref x0, .retAddr 0, .retAddr 0, .retAddr 0] (.int y0 :: st) h Q ↔ WP 14 2 [.ref x0, .int y0, .retAddr 0, .retAddr 0] (st) h Q) ∧
  (∀ (x0 : Nat) (x1 : Int32) (x2 : Value) (st : List Value) (h : AH) (Q : Option Value → AH → Prop), WP 14 3 [.ref x0, .int x1, x2, .retAddr 0] (st) h Q ↔ WP 14 5 [.ref x0, .int x1, x2, .retAddr 0] (.int (100) :: st) h Q) ∧
  (∀ (x0 : Nat) (x1 : Int32) (x2 : Value) (y0 : Int32) (y1 : Int32) (st : List Value) (h : AH) (Q : Option Value → AH → Prop), WP 14 5 [.ref x0, .int x1, x2, .retAddr 0] (.int y0 :: .int y1 :: st) h Q ↔ ((y0 ≤ y1 → WP 14 52 [.ref x0, .int x1, x2, .retAddr 0] (st) h Q) ∧ (¬ y0 ≤ y1 → WP 14 8 [.ref x0, .int x1, x2, .retAddr 0] (st) h Q))) ∧
  (∀ (x0 : Nat) (x1 : Int32) (x2 : Value) (st : List Value) (h : AH) (Q : Option Value → AH → Prop), WP 14 8 [.ref x0, .int x1, x2, .retAddr 0] (st) h Q ↔ WP 14 9 [.ref x0, .int x1, x2, .retAddr 0] (.ref x0 :: st) h Q) ∧
  (∀ (x0 : Nat) (x1 : Int32) (x2 : Value) (y0 : Nat) (st : List Value) (h : AH) (Q : Option Value → AH → Prop) (ht : hT h y0 = 2), WP 14 9 [.ref x0, .int x1, x2, .retAddr 0] (.ref y0 :: st) h Q ↔ WP 14 12 [.ref x0, .int x1, x2, .retAddr 0] (.int (hI h y0 3) :: st) h Q) ∧
  (∀ (x0 : Nat) (x1 : Int32) (x2 : Value) (st : List Value) (h : AH) (Q : Option Value → AH → Prop), WP 14 12 [.ref x0, .int x1, x2, .retAddr 0] (st) h Q ↔ WP 14 13 [.ref x0, .int x1, x2, .retAddr 0] (.int x1 :: st) h Q) ∧
  (∀ (x0 : Nat) (x1 : Int32) (x2 : Value) (y0 : Int32) (y1 : Int32) (st : List Value) (h : AH) (Q : Option Value → AH → Prop), WP 14 13 [.ref x0, .int x1, x2, .retAddr 0] (.int y0 :: .int y1 :: st) h Q ↔ WP 14 14 [.ref x0, .int x1, x2, .retAddr 0] (.int (y1 + y0) :: st) h Q) ∧
  (∀ (x0 : Nat) (x1 : Int32) (x2 : Value) (st : List Value) (h : AH) (Q : Option Value → AH → Prop), WP 14 14 [.ref x0, .int x1, x2, .retAddr 0] (st) h Q ↔ WP 14 16 [.ref x0, .int x1, x2, .retAddr 0] (.int (100) :: st) h Q) ∧
  (∀ (x0 : Nat) (x1 : Int32) (x2 : Value) (y0 : Int32) (y1 : Int32) (st : List Value) (h : AH) (Q : Option Value → AH → Prop) (hy : ¬ y0 = 0), WP 14 16 [.ref x0, .int x1, x2, .retAddr 0] (.int y0 :: .int y1 :: st) h Q ↔ WP 14 17 [.ref x0, .int x1, x2, .retAddr 0] (.int (y1 - y1 / y0 * y0) :: st) h Q) ∧
  (∀ (x0 : Nat) (x1 : Int32) (x2 : Value) (y0 : Int32) (st : List Value) (h : AH) (Q : Option Value → AH → Prop), WP 14 17 [.ref x0, .int x1, x2, .retAddr 0] (.int y0 :: st) h Q ↔ WP 14 18 [.ref x0, .int x1, .int y0, .retAddr 0] (st) h Q) ∧
  (∀ (x0 : Nat) (x1 : Int32) (x2 : Int32) (st : List Value) (h : AH) (Q : Option Value → AH → Prop), WP 14 18 [.ref x0, .int x1, .int x2, .retAddr 0] (st) h Q ↔ WP 14 19 [.ref x0, .int x1, .int x2, .retAddr 0] (.ref x0 :: st) h Q) ∧
  (∀ (x0 : Nat) (x1 : Int32) (x2 : Int32) (y0 : Nat) (st : List Value) (h : AH) (Q : Option Value → AH → Prop) (ht : hT h y0 = 2), WP 14 19 [.ref x0, .int x1, .int x2, .retAddr 0] (.ref y0 :: st) h Q ↔ WP 14 22 [.ref x0, .int x1, .int x2, .retAddr 0] (.ref (hR h y0 2) :: st) h Q) ∧
  (∀ (x0 : Nat) (x1 : Int32) (x2 : Int32) (st : List Value) (h : AH) (Q : Option Value → AH → Prop), WP 14 22 [.ref x0, .int x1, .int x2, .retAddr 0] (st) h Q ↔ WP 14 23 [.ref x0, .int x1, .int x2, .retAddr 0] (.int x2 :: st) h Q) ∧
  (∀ (x0 : Nat) (x1 : Int32) (x2 : Int32) (y0 : Int32) (y1 : Nat) (st : List Value) (h : AH) (Q : Option Value → AH → Prop) (ht : hT h y1 = 100 ∨ hT h y1 = 110) (hi : inb y0 (hL h y1) = true), WP 14 23 [.ref x0, .int x1, .int x2, .retAddr 0] (.int y0 :: .ref y1 :: st) h Q ↔ WP 14 24 [.ref x0, .int x1, .int x2, .retAddr 0] (.int (hI h y1 y0.toNatClampNeg) :: st) h Q) ∧
  (∀ (x0 : Nat) (x1 : Int32) (x2 : Int32) (y0 : Int32) (st : List Value) (h : AH) (Q : Option Value → AH → Prop), WP 14 24 [.ref x0, .int x1, .int x2, .retAddr 0] (.int y0 :: st) h Q ↔ ((y0 < 0 → WP 14 46 [.ref x0, .int x1, .int x2, .retAddr 0] (st) h Q) ∧ (¬ y0 < 0 → WP 14 27 [.ref x0, .int x1, .int x2, .retAddr 0] (st) h Q))) ∧
  (∀ (x0 : Nat) (x1 : Int32) (x2 : Int32) (st : List Value) (h : AH) (Q : Option Value → AH → Prop), WP 14 27 [.ref x0, .int x1, .int x2, .retAddr 0] (st) h Q ↔ WP 14 28 [.ref x0, .int x1, .int x2, .retAddr 0] (.ref x0 :: st) h Q) ∧
  (∀ (x0 : Nat) (x1 : Int32) (x2 : Int32) (st : List Value) (h : AH) (Q : Option Value → AH → Prop), WP 14 28 [.ref x0, .int x1, .int x2, .retAddr 0] (st) h Q ↔ WP 14 29 [.ref x0, .int x1, .int x2, .retAddr 0] (.int x2 :: st) h Q) ∧
  (∀ (x0 : Nat) (x1 : Int32) (x2 : Int32) (y0 : Int32) (y1 : Nat) (st : List Value) (h : AH) (Q : Option Value → AH → Prop) (ht : hT h y1 = 2), WP 14 29 [.ref x0, .int x1, .int x2, .retAddr 0] (.int y0 :: .ref y1 :: st) h Q ↔ WP 14 32 [.ref x0, .int x1, .int x2, .retAddr 0] (st) (sI h y1 3 y0) Q) ∧
  (∀ (x0 : Nat) (x1 : Int32) (x2 : Int32) (st : List Value) (h : AH) (Q : Option Value → AH → Prop), WP 14 32 [.ref x0, .int x1, .int x2, .retAddr 0] (st) h Q ↔ WP 14 33 [.ref x0, .int x1, .int x2, .retAddr 0] (.ref x0 :: st) h Q) ∧
  (∀ (x0 : Nat) (x1 : Int32) (x2 : Int32) (y0 : Nat) (st : List Value) (h : AH) (Q : Option Value → AH → Prop) (ht : hT h y0 = 2), WP 14 33 [.ref x0, .int x1, .int x2, .retAddr 0] (.ref y0 :: st) h Q ↔ WP 14 36 [.ref x0, .int x1, .int x2, .retAddr 0] (.ref (hR h y0 2) :: st) h Q) ∧
  (∀ (x0 : Nat) (x1 : Int32) (x2 : Int32) (st : List Value) (h : AH) (Q : Option Value → AH → Prop), WP 14 36 [.ref x0, .int x1, .int x2, .retAddr 0] (st) h Q ↔ WP 14 37 [.ref x0, .int x1, .int x2, .retAddr 0] (.int x2 :: st) h Q) ∧
  (∀ (x0 : Nat) (x1 : Int32) (x2 : Int32) (y0 : Int32) (y1 : Nat) (st : List Value) (h : AH) (Q : Option Value → AH → Prop) (ht : hT h y1 = 100 ∨ hT h y1 = 110) (hi : inb y0 (hL h y1) = true), WP 14 37 [.ref x0, .int x1, .int x2, .retAddr 0] (.int y0 :: .ref y1 :: st) h Q ↔ WP 14 38 [.ref x0, .int x1, .int x2, .retAddr 0] (.int (hI h y1 y0.toNatClampNeg) :: st) h Q) ∧
  (∀ (x0 : Nat) (x1 : Int32) (x2 : Int32) (y0 : Int32) (st : List Value) (h : AH) (Q : Option Value → AH → Prop), WP 14 38 [.ref x0, .int x1, .int x2, .retAddr 0] (.int y0 :: st) h Q ↔ WP 14 39 [.ref x0, .int x1, .int x2, .int y0] (st) h Q) ∧
  (∀ (x0 : Nat) (x1 : Int32) (x2 : Int32) (x3 : Int32) (st : List Value) (h : AH) (Q : Option Value → AH → Prop), WP 14 39 [.ref x0, .int x1, .int x2, .int x3] (st) h Q ↔ WP 14 40 [.ref x0, .int x1, .int x2, .int x3] (.ref x0 :: st) h Q) ∧
  (∀ (x0 : Nat) (x1 : Int32) (x2 : Int32) (x3 : Int32) (st : List Value) (h : AH) (Q : Option Value → AH → Prop), WP 14 40 [.ref x0, .int x1, .int x2, .int x3] (st) h Q ↔ WP 14 41 [.ref x0, .int x1, .int x2, .int x3] (.int x3 :: st) h Q) ∧
  (∀ (x0 : Nat) (x1 : Int32) (x2 : Int32) (x3 : Int32) (y1 : Nat) (y0 : Int32) (h : AH) (Q : Option Value → AH → Prop) (ht : hT h y1 = 2), WP 14 41 [.ref x0, .int x1, .int x2, .int x3] ([.int y0, .ref y1]) h Q ↔ WPM 16 [.ref y1, .int y0] h (fun r h' => WP 14 44 [.ref x0, .int x1, .int x2, .int x3] (r.toList ++ []) h' Q)) ∧
  (∀ (x0 : Nat) (x1 : Int32) (x2 : Int32) (x3 : Int32) (st : List Value) (h : AH) (Q : Option Value → AH → Prop), WP 14 44 [.ref x0, .int x1, .int x2, .int x3] (st) h Q ↔ WP 14 45 [.ref x0, .int x1, .int x2, .int x3] (.int x3 :: st) h Q) ∧
  (∀ (x0 : Nat) (x1 : Int32) (x2 : Int32) (x3 : Int32) (y0 : Int32) (h : AH) (Q : Option Value → AH → Prop), WP 14 45 [.ref x0, .int x1, .int x2, .int x3] ([.int y0]) h Q ↔ Q (some (.int y0)) h) ∧
  (∀ (x0 : Nat) (x1 : Int32) (x2 : Int32) (st : List Value) (h : AH) (Q : Option Value → AH → Prop), WP 14 46 [.ref x0, .int x1, .int x2, .retAddr 0] (st) h Q ↔ WP 14 49 [.ref x0, .int (x1 + (1)), .int x2, .retAddr 0] (st) h Q) ∧
  (∀ (x0 : Nat) (x1 : Int32) (x2 : Int32) (st : List Value) (h : AH) (Q : Option Value → AH → Prop), WP 14 49 [.ref x0, .int x1, .int x2, .retAddr 0] (st) h Q ↔ WP 14 2 [.ref x0, .int x1, .int x2, .retAddr 0] (st) h Q) ∧
  (∀ (x0 : Nat) (x1 : Int32) (x2 : Value) (st : List Value) (h : AH) (Q : Option Value → AH → Prop), WP 14 52 [.ref x0, .int x1, x2, .retAddr 0] (st) h Q ↔ WP 14 53 [.ref x0, .int x1, x2, .retAddr 0] (.int (-1) :: st) h Q) ∧
  (∀ (x0 : Nat) (x1 : Int32) (x2 : Value) (y0 : Int32) (h : AH) (Q : Option Value → AH → Prop), WP 14 53 [.ref x0, .int x1, x2, .retAddr 0] ([.int y0]) h Q ↔ Q (some (.int y0)) h) :=
  ⟨fun _ _ _ _ => WP_s (show ct 14 0 = some (.iconst 0, 0, []) by decide +kernel) rfl,
  fun _ _ _ _ _ => WP_s (show ct 14 1 = some (.istore_n 1, 0, []) by decide +kernel) rfl,
  fun _ _ _ _ _ _ => WP_s (show ct 14 3 = some (.bipush 100, 0, []) by decide +kernel) rfl,
  fun _ _ _ _ _ _ _ _ => WI_ge (show ct 14 5 = some (.if_icmp .ge 47, 0, [52]) by decide +kernel) (by decide),
  fun _ _ _ _ _ _ => WP_s (show ct 14 8 = some (.aload_n 0, 0, []) by decide +kernel) rfl,
  fun _ _ _ _ _ _ _ ht => WH_gI (show ct 14 9 = some (.getfield 79, 1, [1, 3, 0, 499]) by decide +kernel) (by decide) ht,
  fun _ _ _ _ _ _ => WP_s (show ct 14 12 = some (.iload_n 1, 0, []) by decide +kernel) rfl,
  fun _ _ _ _ _ _ _ _ => WP_s (show ct 14 13 = some (.iadd, 0, []) by decide +kernel) rfl,
  fun _ _ _ _ _ _ => WP_s (show ct 14 14 = some (.bipush 100, 0, []) by decide +kernel) rfl,
  fun _ _ _ _ _ _ _ _ hy => WP_s (show ct 14 16 = some (.irem, 0, []) by decide +kernel) (by simp [lstep, op2d, hy]),
  fun _ _ _ _ _ _ _ => WP_s (show ct 14 17 = some (.istore_n 2, 0, []) by decide +kernel) rfl,
  fun _ _ _ _ _ _ => WP_s (show ct 14 18 = some (.aload_n 0, 0, []) by decide +kernel) rfl,
  fun _ _ _ _ _ _ _ ht => WH_gR (show ct 14 19 = some (.getfield 11, 1, [1, 2, 2, 498]) by decide +kernel) ht,
  fun _ _ _ _ _ _ => WP_s (show ct 14 22 = some (.iload_n 2, 0, []) by decide +kernel) rfl,
  fun _ _ _ _ _ _ _ _ ht hi => WH_iald (show ct 14 23 = some (.iaload, 1, []) by decide +kernel) ht hi,
  fun _ _ _ _ _ _ _ => WZ_lt (show ct 14 24 = some (.ifCond .lt 22, 0, [46]) by decide +kernel) (by decide),
  fun _ _ _ _ _ _ => WP_s (show ct 14 27 = some (.aload_n 0, 0, []) by decide +kernel) rfl,
  fun _ _ _ _ _ _ => WP_s (show ct 14 28 = some (.iload_n 2, 0, []) by decide +kernel) rfl,
  fun _ _ _ _ _ _ _ _ ht => WH_pI (show ct 14 29 = some (.putfield 79, 1, [1, 3, 0, 0, 499]) by decide +kernel) ht,
  fun _ _ _ _ _ _ => WP_s (show ct 14 32 = some (.aload_n 0, 0, []) by decide +kernel) rfl,
  fun _ _ _ _ _ _ _ ht => WH_gR (show ct 14 33 = some (.getfield 11, 1, [1, 2, 2, 498]) by decide +kernel) ht,
  fun _ _ _ _ _ _ => WP_s (show ct 14 36 = some (.iload_n 2, 0, []) by decide +kernel) rfl,
  fun _ _ _ _ _ _ _ _ ht hi => WH_iald (show ct 14 37 = some (.iaload, 1, []) by decide +kernel) ht hi,
  fun _ _ _ _ _ _ _ => WP_s (show ct 14 38 = some (.istore_n 3, 0, []) by decide +kernel) rfl,
  fun _ _ _ _ _ _ _ => WP_s (show ct 14 39 = some (.aload_n 0, 0, []) by decide +kernel) rfl,
  fun _ _ _ _ _ _ _ => WP_s (show ct 14 40 = some (.iload_n 3, 0, []) by decide +kernel) rfl,
  fun _ _ _ _ _ _ _ _ ht => WC_1 (show ct 14 41 = some (.invokevirtual 96, 3, [16, 2, 1, 2, 0, 928, 930, 34]) by decide +kernel) (Nat.le_of_ble_eq_true rfl) (Nat.le_of_ble_eq_true rfl) rfl rfl ht,
  fun _ _ _ _ _ _ _ => WP_s (show ct 14 44 = some (.iload_n 3, 0, []) by decide +kernel) rfl,
  fun _ _ _ _ _ _ _ => WR_i (show ct 14 45 = some (.ireturn, 2, [0]) by decide +kernel),
  fun _ _ _ _ _ _ => WP_s (show ct 14 46 = some (.iinc 1 1, 0, []) by decide +kernel) rfl,
  fun _ _ _ _ _ _ => WP_s (show ct 14 49 = some (.goto (-47), 0, [2]) by decide +kernel) rfl,
  fun _ _ _ _ _ _ => WP_s (show ct 14 52 = some (.iconst (-1), 0, []) by decide +kernel) rfl,
  fun _ _ _ _ _ _ => WR_i (show ct 14 53 = some (.ireturn, 2, [0]) by decide +kernel)⟩
/-! 15: FewBowls$Cheapest.hang(II)V; loop heads [] -/
set_option maxRecDepth 10000 in
theorem w15_a : (∀ (x0 : Nat) (x1 : Int32) (x2 : Int32) (st : List Value) (h : AH) (Q : Option Value → AH → Prop), WP 15 0 [.ref x0, .int x1, .int x2, .retAddr 0] (st) h Q ↔ WP 15 1 [.ref x0, .int x1, .int x2, .retAddr 0] (.int x2 :: st) h Q) ∧
  (∀ (x0 : Nat) (x1 : Int32) (x2 : Int32) (st : List Value) (h : AH) (Q : Option Value → AH → Prop), WP 15 1 [.ref x0, .int x1, .int x2, .retAddr 0] (st) h Q ↔ WP 15 3 [.ref x0, .int x1, .int x2, .retAddr 0] (.int (100) :: st) h Q) ∧
  (∀ (x0 : Nat) (x1 : Int32) (x2 : Int32) (y0 : Int32) (y1 : Int32) (st : List Value) (h : AH) (Q : Option Value → AH → Prop) (hy : ¬ y0 = 0), WP 15 3 [.ref x0, .int x1, .int x2, .retAddr 0] (.int y0 :: .int y1 :: st) h Q ↔ WP 15 4 [.ref x0, .int x1, .int x2, .retAddr 0] (.int (y1 - y1 / y0 * y0) :: st) h Q) ∧
  (∀ (x0 : Nat) (x1 : Int32) (x2 : Int32) (y0 : Int32) (st : List Value) (h : AH) (Q : Option Value → AH → Prop), WP 15 4 [.ref x0, .int x1, .int x2, .retAddr 0] (.int y0 :: st) h Q ↔ WP 15 5 [.ref x0, .int x1, .int x2, .int y0] (st) h Q) ∧
  (∀ (x0 : Nat) (x1 : Int32) (x2 : Int32) (x3 : Int32) (st : List Value) (h : AH) (Q : Option Value → AH → Prop), WP 15 5 [.ref x0, .int x1, .int x2, .int x3] (st) h Q ↔ WP 15 6 [.ref x0, .int x1, .int x2, .int x3] (.ref x0 :: st) h Q) ∧
  (∀ (x0 : Nat) (x1 : Int32) (x2 : Int32) (x3 : Int32) (y0 : Nat) (st : List Value) (h : AH) (Q : Option Value → AH → Prop) (ht : hT h y0 = 2), WP 15 6 [.ref x0, .int x1, .int x2, .int x3] (.ref y0 :: st) h Q ↔ WP 15 9 [.ref x0, .int x1, .int x2, .int x3] (.ref (hR h y0 4) :: st) h Q) ∧
  (∀ (x0 : Nat) (x1 : Int32) (x2 : Int32) (x3 : Int32) (st : List Value) (h : AH) (Q : Option Value → AH → Prop), WP 15 9 [.ref x0, .int x1, .int x2, .int x3] (st) h Q ↔ WP 15 10 [.ref x0, .int x1, .int x2, .int x3] (.int x1 :: st) h Q) ∧
  (∀ (x0 : Nat) (x1 : Int32) (x2 : Int32) (x3 : Int32) (st : List Value) (h : AH) (Q : Option Value → AH → Prop), WP 15 10 [.ref x0, .int x1, .int x2, .int x3] (st) h Q ↔ WP 15 11 [.ref x0, .int x1, .int x2, .int x3] (.int x2 :: st) h Q) ∧
  (∀ (x0 : Nat) (x1 : Int32) (x2 : Int32) (x3 : Int32) (y0 : Int32) (y1 : Int32) (y2 : Nat) (st : List Value) (h : AH) (Q : Option Value → AH → Prop) (ht : hT h y2 = 100) (hi : inb y1 (hL h y2) = true), WP 15 11 [.ref x0, .int x1, .int x2, .int x3] (.int y0 :: .int y1 :: .ref y2 :: st) h Q ↔ WP 15 12 [.ref x0, .int x1, .int x2, .int x3] (st) (sI h y2 y1.toNatClampNeg y0) Q) ∧
  (∀ (x0 : Nat) (x1 : Int32) (x2 : Int32) (x3 : Int32) (st : List Value) (h : AH) (Q : Option Value → AH → Prop), WP 15 12 [.ref x0, .int x1, .int x2, .int x3] (st) h Q ↔ WP 15 13 [.ref x0, .int x1, .int x2, .int x3] (.ref x0 :: st) h Q) ∧
  (∀ (x0 : Nat) (x1 : Int32) (x2 : Int32) (x3 : Int32) (y0 : Nat) (st : List Value) (h : AH) (Q : Option Value → AH → Prop) (ht : hT h y0 = 2), WP 15 13 [.ref x0, .int x1, .int x2, .int x3] (.ref y0 :: st) h Q ↔ WP 15 16 [.ref x0, .int x1, .int x2, .int x3] (.ref (hR h y0 6) :: st) h Q) ∧
  (∀ (x0 : Nat) (x1 : Int32) (x2 : Int32) (x3 : Int32) (st : List Value) (h : AH) (Q : Option Value → AH → Prop), WP 15 16 [.ref x0, .int x1, .int x2, .int x3] (st) h Q ↔ WP 15 17 [.ref x0, .int x1, .int x2, .int x3] (.int x1 :: st) h Q) ∧
  (∀ (x0 : Nat) (x1 : Int32) (x2 : Int32) (x3 : Int32) (st : List Value) (h : AH) (Q : Option Value → AH → Prop), WP 15 17 [.ref x0, .int x1, .int x2, .int x3] (st) h Q ↔ WP 15 18 [.ref x0, .int x1, .int x2, .int x3] (.int (-1) :: st) h Q) ∧
  (∀ (x0 : Nat) (x1 : Int32) (x2 : Int32) (x3 : Int32) (y0 : Int32) (y1 : Int32) (y2 : Nat) (st : List Value) (h : AH) (Q : Option Value → AH → Prop) (ht : hT h y2 = 100) (hi : inb y1 (hL h y2) = true), WP 15 18 [.ref x0, .int x1, .int x2, .int x3] (.int y0 :: .int y1 :: .ref y2 :: st) h Q ↔ WP 15 19 [.ref x0, .int x1, .int x2, .int x3] (st) (sI h y2 y1.toNatClampNeg y0) Q) ∧
  (∀ (x0 : Nat) (x1 : Int32) (x2 : Int32) (x3 : Int32) (st : List Value) (h : AH) (Q : Option Value → AH → Prop), WP 15 19 [.ref x0, .int x1, .int x2, .int x3] (st) h Q ↔ WP 15 20 [.ref x0, .int x1, .int x2, .int x3] (.ref x0 :: st) h Q) ∧
  (∀ (x0 : Nat) (x1 : Int32) (x2 : Int32) (x3 : Int32) (y0 : Nat) (st : List Value) (h : AH) (Q : Option Value → AH → Prop) (ht : hT h y0 = 2), WP 15 20 [.ref x0, .int x1, .int x2, .int x3] (.ref y0 :: st) h Q ↔ WP 15 23 [.ref x0, .int x1, .int x2, .int x3] (.ref (hR h y0 5) :: st) h Q) ∧
  (∀ (x0 : Nat) (x1 : Int32) (x2 : Int32) (x3 : Int32) (st : List Value) (h : AH) (Q : Option Value → AH → Prop), WP 15 23 [.ref x0, .int x1, .int x2, .int x3] (st) h Q ↔ WP 15 24 [.ref x0, .int x1, .int x2, .int x3] (.int x1 :: st) h Q) ∧
  (∀ (x0 : Nat) (x1 : Int32) (x2 : Int32) (x3 : Int32) (st : List Value) (h : AH) (Q : Option Value → AH → Prop), WP 15 24 [.ref x0, .int x1, .int x2, .int x3] (st) h Q ↔ WP 15 25 [.ref x0, .int x1, .int x2, .int x3] (.ref x0 :: st) h Q) ∧
  (∀ (x0 : Nat) (x1 : Int32) (x2 : Int32) (x3 : Int32) (y0 : Nat) (st : List Value) (h : AH) (Q : Option Value → AH → Prop) (ht : hT h y0 = 2), WP 15 25 [.ref x0, .int x1, .int x2, .int x3] (.ref y0 :: st) h Q ↔ WP 15 28 [.ref x0, .int x1, .int x2, .int x3] (.ref (hR h y0 2) :: st) h Q) ∧
  (∀ (x0 : Nat) (x1 : Int32) (x2 : Int32) (x3 : Int32) (st : List Value) (h : AH) (Q : Option Value → AH → Prop), WP 15 28 [.ref x0, .int x1, .int x2, .int x3] (st) h Q ↔ WP 15 29 [.ref x0, .int x1, .int x2, .int x3] (.int x3 :: st) h Q) ∧
  (∀ (x0 : Nat) (x1 : Int32) (x2 : Int32) (x3 : Int32) (y0 : Int32) (y1 : Nat) (st : List Value) (h : AH) (Q : Option Value → AH → Prop) (ht : hT h y1 = 100 ∨ hT h y1 = 110) (hi : inb y0 (hL h y1) = true), WP 15 29 [.ref x0, .int x1, .int x2, .int x3] (.int y0 :: .ref y1 :: st) h Q ↔ WP 15 30 [.ref x0, .int x1, .int x2, .int x3] (.int (hI h y1 y0.toNatClampNeg) :: st) h Q) ∧
  (∀ (x0 : Nat) (x1 : Int32) (x2 : Int32) (x3 : Int32) (y0 : Int32) (y1 : Int32) (y2 : Nat) (st : List Value) (h : AH) (Q : Option Value → AH → Prop) (ht : hT h y2 = 100) (hi : inb y1 (hL h y2) = true), WP 15 30 [.ref x0, .int x1, .int x2, .int x3] (.int y0 :: .int y1 :: .ref y2 :: st) h Q ↔ WP 15 31 [.ref x0, .int x1, .int x2, .int x3] (st) (sI h y2 y1.toNatClampNeg y0) Q) ∧
  (∀ (x0 : Nat) (x1 : Int32) (x2 : Int32) (x3 : Int32) (st : List Value) (h : AH) (Q : Option Value → AH → Prop), WP 15 31 [.ref x0, .int x1, .int x2, .int x3] (st) h Q ↔ WP 15 32 [.ref x0, .int x1, .int x2, .int x3] (.ref x0 :: st) h Q) ∧
  (∀ (x0 : Nat) (x1 : Int32) (x2 : Int32) (x3 : Int32) (y0 : Nat) (st : List Value) (h : AH) (Q : Option Value → AH → Prop) (ht : hT h y0 = 2), WP 15 32 [.ref x0, .int x1, .int x2, .int x3] (.ref y0 :: st) h Q ↔ WP 15 35 [.ref x0, .int x1, .int x2, .int x3] (.ref (hR h y0 2) :: st) h Q) ∧
  (∀ (x0 : Nat) (x1 : Int32) (x2 : Int32) (x3 : Int32) (st : List Value) (h : AH) (Q : Option Value → AH → Prop), WP 15 35 [.ref x0, .int x1, .int x2, .int x3] (st) h Q ↔ WP 15 36 [.ref x0, .int x1, .int x2, .int x3] (.int x3 :: st) h Q) ∧
  (∀ (x0 : Nat) (x1 : Int32) (x2 : Int32) (x3 : Int32) (y0 : Int32) (y1 : Nat) (st : List Value) (h : AH) (Q : Option Value → AH → Prop) (ht : hT h y1 = 100 ∨ hT h y1 = 110) (hi : inb y0 (hL h y1) = true), WP 15 36 [.ref x0, .int x1, .int x2, .int x3] (.int y0 :: .ref y1 :: st) h Q ↔ WP 15 37 [.ref x0, .int x1, .int x2, .int x3] (.int (hI h y1 y0.toNatClampNeg) :: st) h Q) ∧
  (∀ (x0 : Nat) (x1 : Int32) (x2 : Int32) (x3 : Int32) (y0 : Int32) (st : List Value) (h : AH) (Q : Option Value → AH → Prop), WP 15 37 [.ref x0, .int x1, .int x2, .int x3] (.int y0 :: st) h Q ↔ ((y0 < 0 → WP 15 52 [.ref x0, .int x1, .int x2, .int x3] (st) h Q) ∧ (¬ y0 < 0 → WP 15 40 [.ref x0, .int x1, .int x2, .int x3] (st) h Q))) ∧
  (∀ (x0 : Nat) (x1 : Int32) (x2 : Int32) (x3 : Int32) (st : List Value) (h : AH) (Q : Option Value → AH → Prop), WP 15 40 [.ref x0, .int x1, .int x2, .int x3] (st) h Q ↔ WP 15 41 [.ref x0, .int x1, .int x2, .int x3] (.ref x0 :: st) h Q) ∧
  (∀ (x0 : Nat) (x1 : Int32) (x2 : Int32) (x3 : Int32) (y0 : Nat) (st : List Value) (h : AH) (Q : Option Value → AH → Prop) (ht : hT h y0 = 2), WP 15 41 [.ref x0, .int x1, .int x2, .int x3] (.ref y0 :: st) h Q ↔ WP 15 44 [.ref x0, .int x1, .int x2, .int x3] (.ref (hR h y0 6) :: st) h Q) ∧
  (∀ (x0 : Nat) (x1 : Int32) (x2 : Int32) (x3 : Int32) (st : List Value) (h : AH) (Q : Option Value → AH → Prop), WP 15 44 [.ref x0, .int x1, .int x2, .int x3] (st) h Q ↔ WP 15 45 [.ref x0, .int x1, .int x2, .int x3] (.ref x0 :: st) h Q) ∧
  (∀ (x0 : Nat) (x1 : Int32) (x2 : Int32) (x3 : Int32) (y0 : Nat) (st : List Value) (h : AH) (Q : Option Value → AH → Prop) (ht : hT h y0 = 2), WP 15 45 [.ref x0, .int x1, .int x2, .int x3] (.ref y0 :: st) h Q ↔ WP 15 48 [.ref x0, .int x1, .int x2, .int x3] (.ref (hR h y0 2) :: st) h Q) ∧
  (∀ (x0 : Nat) (x1 : Int32) (x2 : Int32) (x3 : Int32) (st : List Value) (h : AH) (Q : Option Value → AH → Prop), WP 15 48 [.ref x0, .int x1, .int x2, .int x3] (st) h Q ↔ WP 15 49 [.ref x0, .int x1, .int x2, .int x3] (.int x3 :: st) h Q) ∧
  (∀ (x0 : Nat) (x1 : Int32) (x2 : Int32) (x3 : Int32) (y0 : Int32) (y1 : Nat) (st : List Value) (h : AH) (Q : Option Value → AH → Prop) (ht : hT h y1 = 100 ∨ hT h y1 = 110) (hi : inb y0 (hL h y1) = true), WP 15 49 [.ref x0, .int x1, .int x2, .int x3] (.int y0 :: .ref y1 :: st) h Q ↔ WP 15 50 [.ref x0, .int x1, .int x2, .int x3] (.int (hI h y1 y0.toNatClampNeg) :: st) h Q) ∧
  (∀ (x0 : Nat) (x1 : Int32) (x2 : Int32) (x3 : Int32) (st : List Value) (h : AH) (Q : Option Value → AH → Prop), WP 15 50 [.ref x0, .int x1, .int x2, .int x3] (st) h Q ↔ WP 15 51 [.ref x0, .int x1, .int x2, .int x3] (.int x1 :: st) h Q) ∧
  (∀ (x0 : Nat) (x1 : Int32) (x2 : Int32) (x3 : Int32) (y0 : Int32) (y1 : Int32) (y2 : Nat) (st : List Value) (h : AH) (Q : Option Value → AH → Prop) (ht : hT h y2 = 100) (hi : inb y1 (hL h y2) = true), WP 15 51 [.ref x0, .int x1, .int x2, .int x3] (.int y0 :: .int y1 :: .ref y2 :: st) h Q ↔ WP 15 52 [.ref x0, .int x1, .int x2, .int x3] (st) (sI h y2 y1.toNatClampNeg y0) Q) ∧
  (∀ (x0 : Nat) (x1 : Int32) (x2 : Int32) (x3 : Int32) (st : List Value) (h : AH) (Q : Option Value → AH → Prop), WP 15 52 [.ref x0, .int x1, .int x2, .int x3] (st) h Q ↔ WP 15 53 [.ref x0, .int x1, .int x2, .int x3] (.ref x0 :: st) h Q) ∧
  (∀ (x0 : Nat) (x1 : Int32) (x2 : Int32) (x3 : Int32) (y0 : Nat) (st : List Value) (h : AH) (Q : Option Value → AH → Prop) (ht : hT h y0 = 2), WP 15 53 [.ref x0, .int x1, .int x2, .int x3] (.ref y0 :: st) h Q ↔ WP 15 56 [.ref x0, .int x1, .int x2, .int x3] (.ref (hR h y0 2) :: st) h Q) ∧
  (∀ (x0 : Nat) (x1 : Int32) (x2 : Int32) (x3 : Int32) (st : List Value) (h : AH) (Q : Option Value → AH → Prop), WP 15 56 [.ref x0, .int x1, .int x2, .int x3] (st) h Q ↔ WP 15 57 [.ref x0, .int x1, .int x2, .int x3] (.int x3 :: st) h Q) ∧
  (∀ (x0 : Nat) (x1 : Int32) (x2 : Int32) (x3 : Int32) (st : List Value) (h : AH) (Q : Option Value → AH → Prop), WP 15 57 [.ref x0, .int x1, .int x2, .int x3] (st) h Q ↔ WP 15 58 [.ref x0, .int x1, .int x2, .int x3] (.int x1 :: st) h Q) ∧
  (∀ (x0 : Nat) (x1 : Int32) (x2 : Int32) (x3 : Int32) (y0 : Int32) (y1 : Int32) (y2 : Nat) (st : List Value) (h : AH) (Q : Option Value → AH → Prop) (ht : hT h y2 = 100) (hi : inb y1 (hL h y2) = true), WP 15 58 [.ref x0, .int x1, .int x2, .int x3] (.int y0 :: .int y1 :: .ref y2 :: st) h Q ↔ WP 15 59 [.ref x0, .int x1, .int x2, .int x3] (st) (sI h y2 y1.toNatClampNeg y0) Q) :=
  ⟨fun _ _ _ _ _ _ => WP_s (show ct 15 0 = some (.iload_n 2, 0, []) by decide +kernel) rfl,
  fun _ _ _ _ _ _ => WP_s (show ct 15 1 = some (.bipush 100, 0, []) by decide +kernel) rfl,
  fun _ _ _ _ _ _ _ _ hy => WP_s (show ct 15 3 = some (.irem, 0, []) by decide +kernel) (by simp [lstep, op2d, hy]),
  fun _ _ _ _ _ _ _ => WP_s (show ct 15 4 = some (.istore_n 3, 0, []) by decide +kernel) rfl,
  fun _ _ _ _ _ _ _ => WP_s (show ct 15 5 = some (.aload_n 0, 0, []) by decide +kernel) rfl,
  fun _ _ _ _ _ _ _ _ ht => WH_gR (show ct 15 6 = some (.getfield 15, 1, [1, 4, 2, 500]) by decide +kernel) ht,
  fun _ _ _ _ _ _ _ => WP_s (show ct 15 9 = some (.iload_n 1, 0, []) by decide +kernel) rfl,
  fun _ _ _ _ _ _ _ => WP_s (show ct 15 10 = some (.iload_n 2, 0, []) by decide +kernel) rfl,
  fun _ _ _ _ _ _ _ _ _ _ ht hi => WH_iast (show ct 15 11 = some (.iastore, 1, []) by decide +kernel) ht hi,
  fun _ _ _ _ _ _ _ => WP_s (show ct 15 12 = some (.aload_n 0, 0, []) by decide +kernel) rfl,
  fun _ _ _ _ _ _ _ _ ht => WH_gR (show ct 15 13 = some (.getfield 21, 1, [1, 6, 2, 502]) by decide +kernel) ht,
  fun _ _ _ _ _ _ _ => WP_s (show ct 15 16 = some (.iload_n 1, 0, []) by decide +kernel) rfl,
  fun _ _ _ _ _ _ _ => WP_s (show ct 15 17 = some (.iconst (-1), 0, []) by decide +kernel) rfl,
  fun _ _ _ _ _ _ _ _ _ _ ht hi => WH_iast (show ct 15 18 = some (.iastore, 1, []) by decide +kernel) ht hi,
  fun _ _ _ _ _ _ _ => WP_s (show ct 15 19 = some (.aload_n 0, 0, []) by decide +kernel) rfl,
  fun _ _ _ _ _ _ _ _ ht => WH_gR (show ct 15 20 = some (.getfield 18, 1, [1, 5, 2, 501]) by decide +kernel) ht,
  fun _ _ _ _ _ _ _ => WP_s (show ct 15 23 = some (.iload_n 1, 0, []) by decide +kernel) rfl,
  fun _ _ _ _ _ _ _ => WP_s (show ct 15 24 = some (.aload_n 0, 0, []) by decide +kernel) rfl,
  fun _ _ _ _ _ _ _ _ ht => WH_gR (show ct 15 25 = some (.getfield 11, 1, [1, 2, 2, 498]) by decide +kernel) ht,
  fun _ _ _ _ _ _ _ => WP_s (show ct 15 28 = some (.iload_n 3, 0, []) by decide +kernel) rfl,
  fun _ _ _ _ _ _ _ _ _ ht hi => WH_iald (show ct 15 29 = some (.iaload, 1, []) by decide +kernel) ht hi,
  fun _ _ _ _ _ _ _ _ _ _ ht hi => WH_iast (show ct 15 30 = some (.iastore, 1, []) by decide +kernel) ht hi,
  fun _ _ _ _ _ _ _ => WP_s (show ct 15 31 = some (.aload_n 0, 0, []) by decide +kernel) rfl,
  fun _ _ _ _ _ _ _ _ ht => WH_gR (show ct 15 32 = some (.getfield 11, 1, [1, 2, 2, 498]) by decide +kernel) ht,
  fun _ _ _ _ _ _ _ => WP_s (show ct 15 35 = some (.iload_n 3, 0, []) by decide +kernel) rfl,
  fun _ _ _ _ _ _ _ _ _ ht hi => WH_iald (show ct 15 36 = some (.iaload, 1, []) by decide +kernel) ht hi,
  fun _ _ _ _ _ _ _ _ => WZ_lt (show ct 15 37 = some (.ifCond .lt 15, 0, [52]) by decide +kernel) (by decide),
  fun _ _ _ _ _ _ _ => WP_s (show ct 15 40 = some (.aload_n 0, 0, []) by decide +kernel) rfl,
  fun _ _ _ _ _ _ _ _ ht => WH_gR (show ct 15 41 = some (.getfield 21, 1, [1, 6, 2, 502]) by decide +kernel) ht,
  fun _ _ _ _ _ _ _ => WP_s (show ct 15 44 = some (.aload_n 0, 0, []) by decide +kernel) rfl,
  fun _ _ _ _ _ _ _ _ ht => WH_gR (show ct 15 45 = some (.getfield 11, 1, [1, 2, 2, 498]) by decide +kernel) ht,
  fun _ _ _ _ _ _ _ => WP_s (show ct 15 48 = some (.iload_n 3, 0, []) by decide +kernel) rfl,
  fun _ _ _ _ _ _ _ _ _ ht hi => WH_iald (show ct 15 49 = some (.iaload, 1, []) by decide +kernel) ht hi,
  fun _ _ _ _ _ _ _ => WP_s (show ct 15 50 = some (.iload_n 1, 0, []) by decide +kernel) rfl,
  fun _ _ _ _ _ _ _ _ _ _ ht hi => WH_iast (show ct 15 51 = some (.iastore, 1, []) by decide +kernel) ht hi,
  fun _ _ _ _ _ _ _ => WP_s (show ct 15 52 = some (.aload_n 0, 0, []) by decide +kernel) rfl,
  fun _ _ _ _ _ _ _ _ ht => WH_gR (show ct 15 53 = some (.getfield 11, 1, [1, 2, 2, 498]) by decide +kernel) ht,
  fun _ _ _ _ _ _ _ => WP_s (show ct 15 56 = some (.iload_n 3, 0, []) by decide +kernel) rfl,
  fun _ _ _ _ _ _ _ => WP_s (show ct 15 57 = some (.iload_n 1, 0, []) by decide +kernel) rfl,
  fun _ _ _ _ _ _ _ _ _ _ ht hi => WH_iast (show ct 15 58 = some (.iastore, 1, []) by decide +kernel) ht hi⟩
theorem w15_b : ∀ (x0 : Nat) (x1 : Int32) (x2 : Int32) (x3 : Int32) (h : AH) (Q : Option Value → AH → Prop), WP 15 59 [.ref x0, .int x1, .int x2, .int x3] ([]) h Q ↔ Q none h := fun _ _ _ _ _ _ => WR_v (show ct 15 59 = some (.return_, 2, [0]) by decide +kernel)
/-- all of 15 -/
def w15_n : Nat := 2
/-! 16: FewBowls$Cheapest.takeOff(I)V; loop heads [] -/
set_option maxRecDepth 10000 in
theorem w16_a : (∀ (x0 : Nat) (x1 : Int32) (st : List Value) (h : AH) (Q : Option Value → AH → Prop), WP 16 0 [.ref x0, .int x1] (st) h Q ↔ WP 16 1 [.ref x0, .int x1] (.ref x0 :: st) h Q) ∧
  (∀ (x0 : Nat) (x1 : Int32) (y0 : Nat) (st : List Value) (h : AH) (Q : Option Value → AH → Prop) (ht : hT h y0 = 2), WP 16 1 [.ref x0, .int x1] (.ref y0 :: st) h Q ↔ WP 16 4 [.ref x0, .int x1] (.ref (hR h y0 6) :: st) h Q) ∧
  (∀ (x0 : Nat) (x1 : Int32) (st : List Value) (h : AH) (Q : Option Value → AH → Prop), WP 16 4 [.ref x0, .int x1] (st) h Q ↔ WP 16 5 [.ref x0, .int x1] (.int x1 :: st) h Q) ∧
  (∀ (x0 : Nat) (x1 : Int32) (y0 : Int32) (y1 : Nat) (st : List Value) (h : AH) (Q : Option Value → AH → Prop) (ht : hT h y1 = 100 ∨ hT h y1 = 110) (hi : inb y0 (hL h y1) = true), WP 16 5 [.ref x0, .int x1] (.int y0 :: .ref y1 :: st) h Q ↔ WP 16 6 [.ref x0, .int x1] (.int (hI h y1 y0.toNatClampNeg) :: st) h Q) ∧
  (∀ (x0 : Nat) (x1 : Int32) (y0 : Int32) (st : List Value) (h : AH) (Q : Option Value → AH → Prop), WP 16 6 [.ref x0, .int x1] (.int y0 :: st) h Q ↔ ((y0 < 0 → WP 16 29 [.ref x0, .int x1] (st) h Q) ∧ (¬ y0 < 0 → WP 16 9 [.ref x0, .int x1] (st) h Q))) ∧
  (∀ (x0 : Nat) (x1 : Int32) (st : List Value) (h : AH) (Q : Option Value → AH → Prop), WP 16 9 [.ref x0, .int x1] (st) h Q ↔ WP 16 10 [.ref x0, .int x1] (.ref x0 :: st) h Q) ∧
  (∀ (x0 : Nat) (x1 : Int32) (y0 : Nat) (st : List Value) (h : AH) (Q : Option Value → AH → Prop) (ht : hT h y0 = 2), WP 16 10 [.ref x0, .int x1] (.ref y0 :: st) h Q ↔ WP 16 13 [.ref x0, .int x1] (.ref (hR h y0 5) :: st) h Q) ∧
  (∀ (x0 : Nat) (x1 : Int32) (st : List Value) (h : AH) (Q : Option Value → AH → Prop), WP 16 13 [.ref x0, .int x1] (st) h Q ↔ WP 16 14 [.ref x0, .int x1] (.ref x0 :: st) h Q) ∧
  (∀ (x0 : Nat) (x1 : Int32) (y0 : Nat) (st : List Value) (h : AH) (Q : Option Value → AH → Prop) (ht : hT h y0 = 2), WP 16 14 [.ref x0, .int x1] (.ref y0 :: st) h Q ↔ WP 16 17 [.ref x0, .int x1] (.ref (hR h y0 6) :: st) h Q) ∧
  (∀ (x0 : Nat) (x1 : Int32) (st : List Value) (h : AH) (Q : Option Value → AH → Prop), WP 16 17 [.ref x0, .int x1] (st) h Q ↔ WP 16 18 [.ref x0, .int x1] (.int x1 :: st) h Q) ∧
  (∀ (x0 : Nat) (x1 : Int32) (y0 : Int32) (y1 : Nat) (st : List Value) (h : AH) (Q : Option Value → AH → Prop) (ht : hT h y1 = 100 ∨ hT h y1 = 110) (hi : inb y0 (hL h y1) = true), WP 16 18 [.ref x0, .int x1] (.int y0 :: .ref y1 :: st) h Q ↔ WP 16 19 [.ref x0, .int x1] (.int (hI h y1 y0.toNatClampNeg) :: st) h Q) ∧
  (∀ (x0 : Nat) (x1 : Int32) (st : List Value) (h : AH) (Q : Option Value → AH → Prop), WP 16 19 [.ref x0, .int x1] (st) h Q ↔ WP 16 20 [.ref x0, .int x1] (.ref x0 :: st) h Q) ∧
  (∀ (x0 : Nat) (x1 : Int32) (y0 : Nat) (st : List Value) (h : AH) (Q : Option Value → AH → Prop) (ht : hT h y0 = 2), WP 16 20 [.ref x0, .int x1] (.ref y0 :: st) h Q ↔ WP 16 23 [.ref x0, .int x1] (.ref (hR h y0 5) :: st) h Q) ∧
  (∀ (x0 : Nat) (x1 : Int32) (st : List Value) (h : AH) (Q : Option Value → AH → Prop), WP 16 23 [.ref x0, .int x1] (st) h Q ↔ WP 16 24 [.ref x0, .int x1] (.int x1 :: st) h Q) ∧
  (∀ (x0 : Nat) (x1 : Int32) (y0 : Int32) (y1 : Nat) (st : List Value) (h : AH) (Q : Option Value → AH → Prop) (ht : hT h y1 = 100 ∨ hT h y1 = 110) (hi : inb y0 (hL h y1) = true), WP 16 24 [.ref x0, .int x1] (.int y0 :: .ref y1 :: st) h Q ↔ WP 16 25 [.ref x0, .int x1] (.int (hI h y1 y0.toNatClampNeg) :: st) h Q) ∧
  (∀ (x0 : Nat) (x1 : Int32) (y0 : Int32) (y1 : Int32) (y2 : Nat) (st : List Value) (h : AH) (Q : Option Value → AH → Prop) (ht : hT h y2 = 100) (hi : inb y1 (hL h y2) = true), WP 16 25 [.ref x0, .int x1] (.int y0 :: .int y1 :: .ref y2 :: st) h Q ↔ WP 16 26 [.ref x0, .int x1] (st) (sI h y2 y1.toNatClampNeg y0) Q) ∧
  (∀ (x0 : Nat) (x1 : Int32) (st : List Value) (h : AH) (Q : Option Value → AH → Prop), WP 16 26 [.ref x0, .int x1] (st) h Q ↔ WP 16 49 [.ref x0, .int x1] (st) h Q) ∧
  (∀ (x0 : Nat) (x1 : Int32) (st : List Value) (h : AH) (Q : Option Value → AH → Prop), WP 16 29 [.ref x0, .int x1] (st) h Q ↔ WP 16 30 [.ref x0, .int x1] (.ref x0 :: st) h Q) ∧
  (∀ (x0 : Nat) (x1 : Int32) (y0 : Nat) (st : List Value) (h : AH) (Q : Option Value → AH → Prop) (ht : hT h y0 = 2), WP 16 30 [.ref x0, .int x1] (.ref y0 :: st) h Q ↔ WP 16 33 [.ref x0, .int x1] (.ref (hR h y0 2) :: st) h Q) ∧
  (∀ (x0 : Nat) (x1 : Int32) (st : List Value) (h : AH) (Q : Option Value → AH → Prop), WP 16 33 [.ref x0, .int x1] (st) h Q ↔ WP 16 34 [.ref x0, .int x1] (.ref x0 :: st) h Q) ∧
  (∀ (x0 : Nat) (x1 : Int32) (y0 : Nat) (st : List Value) (h : AH) (Q : Option Value → AH → Prop) (ht : hT h y0 = 2), WP 16 34 [.ref x0, .int x1] (.ref y0 :: st) h Q ↔ WP 16 37 [.ref x0, .int x1] (.ref (hR h y0 4) :: st) h Q) ∧
  (∀ (x0 : Nat) (x1 : Int32) (st : List Value) (h : AH) (Q : Option Value → AH → Prop), WP 16 37 [.ref x0, .int x1] (st) h Q ↔ WP 16 38 [.ref x0, .int x1] (.int x1 :: st) h Q) ∧
  (∀ (x0 : Nat) (x1 : Int32) (y0 : Int32) (y1 : Nat) (st : List Value) (h : AH) (Q : Option Value → AH → Prop) (ht : hT h y1 = 100 ∨ hT h y1 = 110) (hi : inb y0 (hL h y1) = true), WP 16 38 [.ref x0, .int x1] (.int y0 :: .ref y1 :: st) h Q ↔ WP 16 39 [.ref x0, .int x1] (.int (hI h y1 y0.toNatClampNeg) :: st) h Q) ∧
  (∀ (x0 : Nat) (x1 : Int32) (st : List Value) (h : AH) (Q : Option Value → AH → Prop), WP 16 39 [.ref x0, .int x1] (st) h Q ↔ WP 16 41 [.ref x0, .int x1] (.int (100) :: st) h Q) ∧
  (∀ (x0 : Nat) (x1 : Int32) (y0 : Int32) (y1 : Int32) (st : List Value) (h : AH) (Q : Option Value → AH → Prop) (hy : ¬ y0 = 0), WP 16 41 [.ref x0, .int x1] (.int y0 :: .int y1 :: st) h Q ↔ WP 16 42 [.ref x0, .int x1] (.int (y1 - y1 / y0 * y0) :: st) h Q) ∧
  (∀ (x0 : Nat) (x1 : Int32) (st : List Value) (h : AH) (Q : Option Value → AH → Prop), WP 16 42 [.ref x0, .int x1] (st) h Q ↔ WP 16 43 [.ref x0, .int x1] (.ref x0 :: st) h Q) ∧
  (∀ (x0 : Nat) (x1 : Int32) (y0 : Nat) (st : List Value) (h : AH) (Q : Option Value → AH → Prop) (ht : hT h y0 = 2), WP 16 43 [.ref x0, .int x1] (.ref y0 :: st) h Q ↔ WP 16 46 [.ref x0, .int x1] (.ref (hR h y0 5) :: st) h Q) ∧
  (∀ (x0 : Nat) (x1 : Int32) (st : List Value) (h : AH) (Q : Option Value → AH → Prop), WP 16 46 [.ref x0, .int x1] (st) h Q ↔ WP 16 47 [.ref x0, .int x1] (.int x1 :: st) h Q) ∧
  (∀ (x0 : Nat) (x1 : Int32) (y0 : Int32) (y1 : Nat) (st : List Value) (h : AH) (Q : Option Value → AH → Prop) (ht : hT h y1 = 100 ∨ hT h y1 = 110) (hi : inb y0 (hL h y1) = true), WP 16 47 [.ref x0, .int x1] (.int y0 :: .ref y1 :: st) h Q ↔ WP 16 48 [.ref x0, .int x1] (.int (hI h y1 y0.toNatClampNeg) :: st) h Q) ∧
  (∀ (x0 : Nat) (x1 : Int32) (y0 : Int32) (y1 : Int32) (y2 : Nat) (st : List Value) (h : AH) (Q : Option Value → AH → Prop) (ht : hT h y2 = 100) (hi : inb y1 (hL h y2) = true), WP 16 48 [.ref x0, .int x1] (.int y0 :: .int y1 :: .ref y2 :: st) h Q ↔ WP 16 49 [.ref x0, .int x1] (st) (sI h y2 y1.toNatClampNeg y0) Q) ∧
  (∀ (x0 : Nat) (x1 : Int32) (st : List Value) (h : AH) (Q : Option Value → AH → Prop), WP 16 49 [.ref x0, .int x1] (st) h Q ↔ WP 16 50 [.ref x0, .int x1] (.ref x0 :: st) h Q) ∧
  (∀ (x0 : Nat) (x1 : Int32) (y0 : Nat) (st : List Value) (h : AH) (Q : Option Value → AH → Prop) (ht : hT h y0 = 2), WP 16 50 [.ref x0, .int x1] (.ref y0 :: st) h Q ↔ WP 16 53 [.ref x0, .int x1] (.ref (hR h y0 5) :: st) h Q) ∧
  (∀ (x0 : Nat) (x1 : Int32) (st : List Value) (h : AH) (Q : Option Value → AH → Prop), WP 16 53 [.ref x0, .int x1] (st) h Q ↔ WP 16 54 [.ref x0, .int x1] (.int x1 :: st) h Q) ∧
  (∀ (x0 : Nat) (x1 : Int32) (y0 : Int32) (y1 : Nat) (st : List Value) (h : AH) (Q : Option Value → AH → Prop) (ht : hT h y1 = 100 ∨ hT h y1 = 110) (hi : inb y0 (hL h y1) = true), WP 16 54 [.ref x0, .int x1] (.int y0 :: .ref y1 :: st) h Q ↔ WP 16 55 [.ref x0, .int x1] (.int (hI h y1 y0.toNatClampNeg) :: st) h Q) ∧
  (∀ (x0 : Nat) (x1 : Int32) (y0 : Int32) (st : List Value) (h : AH) (Q : Option Value → AH → Prop), WP 16 55 [.ref x0, .int x1] (.int y0 :: st) h Q ↔ ((y0 < 0 → WP 16 75 [.ref x0, .int x1] (st) h Q) ∧ (¬ y0 < 0 → WP 16 58 [.ref x0, .int x1] (st) h Q))) ∧
  (∀ (x0 : Nat) (x1 : Int32) (st : List Value) (h : AH) (Q : Option Value → AH → Prop), WP 16 58 [.ref x0, .int x1] (st) h Q ↔ WP 16 59 [.ref x0, .int x1] (.ref x0 :: st) h Q) ∧
  (∀ (x0 : Nat) (x1 : Int32) (y0 : Nat) (st : List Value) (h : AH) (Q : Option Value → AH → Prop) (ht : hT h y0 = 2), WP 16 59 [.ref x0, .int x1] (.ref y0 :: st) h Q ↔ WP 16 62 [.ref x0, .int x1] (.ref (hR h y0 6) :: st) h Q) ∧
  (∀ (x0 : Nat) (x1 : Int32) (st : List Value) (h : AH) (Q : Option Value → AH → Prop), WP 16 62 [.ref x0, .int x1] (st) h Q ↔ WP 16 63 [.ref x0, .int x1] (.ref x0 :: st) h Q) ∧
  (∀ (x0 : Nat) (x1 : Int32) (y0 : Nat) (st : List Value) (h : AH) (Q : Option Value → AH → Prop) (ht : hT h y0 = 2), WP 16 63 [.ref x0, .int x1] (.ref y0 :: st) h Q ↔ WP 16 66 [.ref x0, .int x1] (.ref (hR h y0 5) :: st) h Q) ∧
  (∀ (x0 : Nat) (x1 : Int32) (st : List Value) (h : AH) (Q : Option Value → AH → Prop), WP 16 66 [.ref x0, .int x1] (st) h Q ↔ WP 16 67 [.ref x0, .int x1] (.int x1 :: st) h Q) :=
  ⟨fun _ _ _ _ _ => WP_s (show ct 16 0 = some (.aload_n 0, 0, []) by decide +kernel) rfl,
  fun _ _ _ _ _ _ ht => WH_gR (show ct 16 1 = some (.getfield 21, 1, [1, 6, 2, 502]) by decide +kernel) ht,
  fun _ _ _ _ _ => WP_s (show ct 16 4 = some (.iload_n 1, 0, []) by decide +kernel) rfl,
  fun _ _ _ _ _ _ _ ht hi => WH_iald (show ct 16 5 = some (.iaload, 1, []) by decide +kernel) ht hi,
  fun _ _ _ _ _ _ => WZ_lt (show ct 16 6 = some (.ifCond .lt 23, 0, [29]) by decide +kernel) (by decide),
  fun _ _ _ _ _ => WP_s (show ct 16 9 = some (.aload_n 0, 0, []) by decide +kernel) rfl,
  fun _ _ _ _ _ _ ht => WH_gR (show ct 16 10 = some (.getfield 18, 1, [1, 5, 2, 501]) by decide +kernel) ht,
  fun _ _ _ _ _ => WP_s (show ct 16 13 = some (.aload_n 0, 0, []) by decide +kernel) rfl,
  fun _ _ _ _ _ _ ht => WH_gR (show ct 16 14 = some (.getfield 21, 1, [1, 6, 2, 502]) by decide +kernel) ht,
  fun _ _ _ _ _ => WP_s (show ct 16 17 = some (.iload_n 1, 0, []) by decide +kernel) rfl,
  fun _ _ _ _ _ _ _ ht hi => WH_iald (show ct 16 18 = some (.iaload, 1, []) by decide +kernel) ht hi,
  fun _ _ _ _ _ => WP_s (show ct 16 19 = some (.aload_n 0, 0, []) by decide +kernel) rfl,
  fun _ _ _ _ _ _ ht => WH_gR (show ct 16 20 = some (.getfield 18, 1, [1, 5, 2, 501]) by decide +kernel) ht,
  fun _ _ _ _ _ => WP_s (show ct 16 23 = some (.iload_n 1, 0, []) by decide +kernel) rfl,
  fun _ _ _ _ _ _ _ ht hi => WH_iald (show ct 16 24 = some (.iaload, 1, []) by decide +kernel) ht hi,
  fun _ _ _ _ _ _ _ _ ht hi => WH_iast (show ct 16 25 = some (.iastore, 1, []) by decide +kernel) ht hi,
  fun _ _ _ _ _ => WP_s (show ct 16 26 = some (.goto 23, 0, [49]) by decide +kernel) rfl,
  fun _ _ _ _ _ => WP_s (show ct 16 29 = some (.aload_n 0, 0, []) by decide +kernel) rfl,
  fun _ _ _ _ _ _ ht => WH_gR (show ct 16 30 = some (.getfield 11, 1, [1, 2, 2, 498]) by decide +kernel) ht,
  fun _ _ _ _ _ => WP_s (show ct 16 33 = some (.aload_n 0, 0, []) by decide +kernel) rfl,
  fun _ _ _ _ _ _ ht => WH_gR (show ct 16 34 = some (.getfield 15, 1, [1, 4, 2, 500]) by decide +kernel) ht,
  fun _ _ _ _ _ => WP_s (show ct 16 37 = some (.iload_n 1, 0, []) by decide +kernel) rfl,
  fun _ _ _ _ _ _ _ ht hi => WH_iald (show ct 16 38 = some (.iaload, 1, []) by decide +kernel) ht hi,
  fun _ _ _ _ _ => WP_s (show ct 16 39 = some (.bipush 100, 0, []) by decide +kernel) rfl,
  fun _ _ _ _ _ _ _ hy => WP_s (show ct 16 41 = some (.irem, 0, []) by decide +kernel) (by simp [lstep, op2d, hy]),
  fun _ _ _ _ _ => WP_s (show ct 16 42 = some (.aload_n 0, 0, []) by decide +kernel) rfl,
  fun _ _ _ _ _ _ ht => WH_gR (show ct 16 43 = some (.getfield 18, 1, [1, 5, 2, 501]) by decide +kernel) ht,
  fun _ _ _ _ _ => WP_s (show ct 16 46 = some (.iload_n 1, 0, []) by decide +kernel) rfl,
  fun _ _ _ _ _ _ _ ht hi => WH_iald (show ct 16 47 = some (.iaload, 1, []) by decide +kernel) ht hi,
  fun _ _ _ _ _ _ _ _ ht hi => WH_iast (show ct 16 48 = some (.iastore, 1, []) by decide +kernel) ht hi,
  fun _ _ _ _ _ => WP_s (show ct 16 49 = some (.aload_n 0, 0, []) by decide +kernel) rfl,
  fun _ _ _ _ _ _ ht => WH_gR (show ct 16 50 = some (.getfield 18, 1, [1, 5, 2, 501]) by decide +kernel) ht,
  fun _ _ _ _ _ => WP_s (show ct 16 53 = some (.iload_n 1, 0, []) by decide +kernel) rfl,
  fun _ _ _ _ _ _ _ ht hi => WH_iald (show ct 16 54 = some (.iaload, 1, []) by decide +kernel) ht hi,
  fun _ _ _ _ _ _ => WZ_lt (show ct 16 55 = some (.ifCond .lt 20, 0, [75]) by decide +kernel) (by decide),
  fun _ _ _ _ _ => WP_s (show ct 16 58 = some (.aload_n 0, 0, []) by decide +kernel) rfl,
  fun _ _ _ _ _ _ ht => WH_gR (show ct 16 59 = some (.getfield 21, 1, [1, 6, 2, 502]) by decide +kernel) ht,
  fun _ _ _ _ _ => WP_s (show ct 16 62 = some (.aload_n 0, 0, []) by decide +kernel) rfl,
  fun _ _ _ _ _ _ ht => WH_gR (show ct 16 63 = some (.getfield 18, 1, [1, 5, 2, 501]) by decide +kernel) ht,
  fun _ _ _ _ _ => WP_s (show ct 16 66 = some (.iload_n 1, 0, []) by decide +kernel) rfl⟩
set_option maxRecDepth 10000 in
theorem w16_b : (∀ (x0 : Nat) (x1 : Int32) (y0 : Int32) (y1 : Nat) (st : List Value) (h : AH) (Q : Option Value → AH → Prop) (ht : hT h y1 = 100 ∨ hT h y1 = 110) (hi : inb y0 (hL h y1) = true), WP 16 67 [.ref x0, .int x1] (.int y0 :: .ref y1 :: st) h Q ↔ WP 16 68 [.ref x0, .int x1] (.int (hI h y1 y0.toNatClampNeg) :: st) h Q) ∧
  (∀ (x0 : Nat) (x1 : Int32) (st : List Value) (h : AH) (Q : Option Value → AH → Prop), WP 16 68 [.ref x0, .int x1] (st) h Q ↔ WP 16 69 [.ref x0, .int x1] (.ref x0 :: st) h Q) ∧
  (∀ (x0 : Nat) (x1 : Int32) (y0 : Nat) (st : List Value) (h : AH) (Q : Option Value → AH → Prop) (ht : hT h y0 = 2), WP 16 69 [.ref x0, .int x1] (.ref y0 :: st) h Q ↔ WP 16 72 [.ref x0, .int x1] (.ref (hR h y0 6) :: st) h Q) ∧
  (∀ (x0 : Nat) (x1 : Int32) (st : List Value) (h : AH) (Q : Option Value → AH → Prop), WP 16 72 [.ref x0, .int x1] (st) h Q ↔ WP 16 73 [.ref x0, .int x1] (.int x1 :: st) h Q) ∧
  (∀ (x0 : Nat) (x1 : Int32) (y0 : Int32) (y1 : Nat) (st : List Value) (h : AH) (Q : Option Value → AH → Prop) (ht : hT h y1 = 100 ∨ hT h y1 = 110) (hi : inb y0 (hL h y1) = true), WP 16 73 [.ref x0, .int x1] (.int y0 :: .ref y1 :: st) h Q ↔ WP 16 74 [.ref x0, .int x1] (.int (hI h y1 y0.toNatClampNeg) :: st) h Q) ∧
  (∀ (x0 : Nat) (x1 : Int32) (y0 : Int32) (y1 : Int32) (y2 : Nat) (st : List Value) (h : AH) (Q : Option Value → AH → Prop) (ht : hT h y2 = 100) (hi : inb y1 (hL h y2) = true), WP 16 74 [.ref x0, .int x1] (.int y0 :: .int y1 :: .ref y2 :: st) h Q ↔ WP 16 75 [.ref x0, .int x1] (st) (sI h y2 y1.toNatClampNeg y0) Q) ∧
  (∀ (x0 : Nat) (x1 : Int32) (h : AH) (Q : Option Value → AH → Prop), WP 16 75 [.ref x0, .int x1] ([]) h Q ↔ Q none h) :=
  ⟨fun _ _ _ _ _ _ _ ht hi => WH_iald (show ct 16 67 = some (.iaload, 1, []) by decide +kernel) ht hi,
  fun _ _ _ _ _ => WP_s (show ct 16 68 = some (.aload_n 0, 0, []) by decide +kernel) rfl,
  fun _ _ _ _ _ _ ht => WH_gR (show ct 16 69 = some (.getfield 21, 1, [1, 6, 2, 502]) by decide +kernel) ht,
  fun _ _ _ _ _ => WP_s (show ct 16 72 = some (.iload_n 1, 0, []) by decide +kernel) rfl,
  fun _ _ _ _ _ _ _ ht hi => WH_iald (show ct 16 73 = some (.iaload, 1, []) by decide +kernel) ht hi,
  fun _ _ _ _ _ _ _ _ ht hi => WH_iast (show ct 16 74 = some (.iastore, 1, []) by decide +kernel) ht hi,
  fun _ _ _ _ => WR_v (show ct 16 75 = some (.return_, 2, [0]) by decide +kernel)⟩
/-- all of 16 -/
def w16_n : Nat := 2

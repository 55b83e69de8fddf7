/-! 22: FewBowls$Net.<init>()V; loop heads [] -/
set_option maxRecDepth 10000 in
theorem w22_a : (∀ (x0 : Nat) (st : List Value) (h : AH) (Q : Option Value → AH → Prop), WP 22 0 [.ref x0] (st) h Q ↔ WP 22 1 [.ref x0] (.ref x0 :: st) h Q) ∧
  (∀ (x0 : Nat) (y0 : Nat) (h : AH) (Q : Option Value → AH → Prop) (h0 : y0 ≠ 0), WP 22 1 [.ref x0] ([.ref y0]) h Q ↔ WP 22 4 [.ref x0] ([]) h Q) ∧
  (∀ (x0 : Nat) (st : List Value) (h : AH) (Q : Option Value → AH → Prop), WP 22 4 [.ref x0] (st) h Q ↔ WP 22 5 [.ref x0] (.ref x0 :: st) h Q) ∧
  (∀ (x0 : Nat) (st : List Value) (h : AH) (Q : Option Value → AH → Prop), WP 22 5 [.ref x0] (st) h Q ↔ WP 22 7 [.ref x0] (.int (14) :: st) h Q) ∧
  (∀ (x0 : Nat) (y0 : Int32) (st : List Value) (h : AH) (Q : Option Value → AH → Prop) (h0 : 0 ≤ y0) (h1 : y0.toNatClampNeg ≤ 1048576), WP 22 7 [.ref x0] (.int y0 :: st) h Q ↔ WP 22 9 [.ref x0] (.ref (hN h) :: st) (nw h 100 y0.toNatClampNeg y0.toNatClampNeg) Q) ∧
  (∀ (x0 : Nat) (y0 : Nat) (y1 : Nat) (st : List Value) (h : AH) (Q : Option Value → AH → Prop) (ht : hT h y1 = 4), WP 22 9 [.ref x0] (.ref y0 :: .ref y1 :: st) h Q ↔ WP 22 12 [.ref x0] (st) (sR h y1 4 y0) Q) ∧
  (∀ (x0 : Nat) (st : List Value) (h : AH) (Q : Option Value → AH → Prop), WP 22 12 [.ref x0] (st) h Q ↔ WP 22 13 [.ref x0] (.ref x0 :: st) h Q) ∧
  (∀ (x0 : Nat) (st : List Value) (h : AH) (Q : Option Value → AH → Prop), WP 22 13 [.ref x0] (st) h Q ↔ WP 22 15 [.ref x0] (.int (14) :: st) h Q) ∧
  (∀ (x0 : Nat) (y0 : Int32) (st : List Value) (h : AH) (Q : Option Value → AH → Prop) (h0 : 0 ≤ y0) (h1 : y0.toNatClampNeg ≤ 1048576), WP 22 15 [.ref x0] (.int y0 :: st) h Q ↔ WP 22 17 [.ref x0] (.ref (hN h) :: st) (nw h 100 y0.toNatClampNeg y0.toNatClampNeg) Q) ∧
  (∀ (x0 : Nat) (y0 : Nat) (y1 : Nat) (st : List Value) (h : AH) (Q : Option Value → AH → Prop) (ht : hT h y1 = 4), WP 22 17 [.ref x0] (.ref y0 :: .ref y1 :: st) h Q ↔ WP 22 20 [.ref x0] (st) (sR h y1 5 y0) Q) ∧
  (∀ (x0 : Nat) (st : List Value) (h : AH) (Q : Option Value → AH → Prop), WP 22 20 [.ref x0] (st) h Q ↔ WP 22 21 [.ref x0] (.ref x0 :: st) h Q) ∧
  (∀ (x0 : Nat) (st : List Value) (h : AH) (Q : Option Value → AH → Prop), WP 22 21 [.ref x0] (st) h Q ↔ WP 22 23 [.ref x0] (.int (14) :: st) h Q) ∧
  (∀ (x0 : Nat) (y0 : Int32) (st : List Value) (h : AH) (Q : Option Value → AH → Prop) (h0 : 0 ≤ y0) (h1 : y0.toNatClampNeg ≤ 1048576), WP 22 23 [.ref x0] (.int y0 :: st) h Q ↔ WP 22 25 [.ref x0] (.ref (hN h) :: st) (nw h 100 y0.toNatClampNeg y0.toNatClampNeg) Q) ∧
  (∀ (x0 : Nat) (y0 : Nat) (y1 : Nat) (st : List Value) (h : AH) (Q : Option Value → AH → Prop) (ht : hT h y1 = 4), WP 22 25 [.ref x0] (.ref y0 :: .ref y1 :: st) h Q ↔ WP 22 28 [.ref x0] (st) (sR h y1 6 y0) Q) ∧
  (∀ (x0 : Nat) (st : List Value) (h : AH) (Q : Option Value → AH → Prop), WP 22 28 [.ref x0] (st) h Q ↔ WP 22 29 [.ref x0] (.ref x0 :: st) h Q) ∧
  (∀ (x0 : Nat) (st : List Value) (h : AH) (Q : Option Value → AH → Prop), WP 22 29 [.ref x0] (st) h Q ↔ WP 22 31 [.ref x0] (.int (14) :: st) h Q) ∧
  (∀ (x0 : Nat) (y0 : Int32) (st : List Value) (h : AH) (Q : Option Value → AH → Prop) (h0 : 0 ≤ y0) (h1 : y0.toNatClampNeg ≤ 1048576), WP 22 31 [.ref x0] (.int y0 :: st) h Q ↔ WP 22 33 [.ref x0] (.ref (hN h) :: st) (nw h 100 y0.toNatClampNeg y0.toNatClampNeg) Q) ∧
  (∀ (x0 : Nat) (y0 : Nat) (y1 : Nat) (st : List Value) (h : AH) (Q : Option Value → AH → Prop) (ht : hT h y1 = 4), WP 22 33 [.ref x0] (.ref y0 :: .ref y1 :: st) h Q ↔ WP 22 36 [.ref x0] (st) (sR h y1 7 y0) Q) ∧
  (∀ (x0 : Nat) (st : List Value) (h : AH) (Q : Option Value → AH → Prop), WP 22 36 [.ref x0] (st) h Q ↔ WP 22 37 [.ref x0] (.ref x0 :: st) h Q) ∧
  (∀ (x0 : Nat) (st : List Value) (h : AH) (Q : Option Value → AH → Prop), WP 22 37 [.ref x0] (st) h Q ↔ WP 22 39 [.ref x0] (.int (14) :: st) h Q) ∧
  (∀ (x0 : Nat) (y0 : Int32) (st : List Value) (h : AH) (Q : Option Value → AH → Prop) (h0 : 0 ≤ y0) (h1 : y0.toNatClampNeg ≤ 1048576), WP 22 39 [.ref x0] (.int y0 :: st) h Q ↔ WP 22 41 [.ref x0] (.ref (hN h) :: st) (nw h 100 y0.toNatClampNeg y0.toNatClampNeg) Q) ∧
  (∀ (x0 : Nat) (y0 : Nat) (y1 : Nat) (st : List Value) (h : AH) (Q : Option Value → AH → Prop) (ht : hT h y1 = 4), WP 22 41 [.ref x0] (.ref y0 :: .ref y1 :: st) h Q ↔ WP 22 44 [.ref x0] (st) (sR h y1 8 y0) Q) ∧
  (∀ (x0 : Nat) (st : List Value) (h : AH) (Q : Option Value → AH → Prop), WP 22 44 [.ref x0] (st) h Q ↔ WP 22 45 [.ref x0] (.ref x0 :: st) h Q) ∧
  (∀ (x0 : Nat) (st : List Value) (h : AH) (Q : Option Value → AH → Prop), WP 22 45 [.ref x0] (st) h Q ↔ WP 22 47 [.ref x0] (.int (14) :: st) h Q) ∧
  (∀ (x0 : Nat) (y0 : Int32) (st : List Value) (h : AH) (Q : Option Value → AH → Prop) (h0 : 0 ≤ y0) (h1 : y0.toNatClampNeg ≤ 1048576), WP 22 47 [.ref x0] (.int y0 :: st) h Q ↔ WP 22 49 [.ref x0] (.ref (hN h) :: st) (nw h 100 y0.toNatClampNeg y0.toNatClampNeg) Q) ∧
  (∀ (x0 : Nat) (y0 : Nat) (y1 : Nat) (st : List Value) (h : AH) (Q : Option Value → AH → Prop) (ht : hT h y1 = 4), WP 22 49 [.ref x0] (.ref y0 :: .ref y1 :: st) h Q ↔ WP 22 52 [.ref x0] (st) (sR h y1 9 y0) Q) ∧
  (∀ (x0 : Nat) (st : List Value) (h : AH) (Q : Option Value → AH → Prop), WP 22 52 [.ref x0] (st) h Q ↔ WP 22 53 [.ref x0] (.ref x0 :: st) h Q) ∧
  (∀ (x0 : Nat) (st : List Value) (h : AH) (Q : Option Value → AH → Prop), WP 22 53 [.ref x0] (st) h Q ↔ WP 22 55 [.ref x0] (.int (14) :: st) h Q) ∧
  (∀ (x0 : Nat) (y0 : Int32) (st : List Value) (h : AH) (Q : Option Value → AH → Prop) (h0 : 0 ≤ y0) (h1 : y0.toNatClampNeg ≤ 1048576), WP 22 55 [.ref x0] (.int y0 :: st) h Q ↔ WP 22 57 [.ref x0] (.ref (hN h) :: st) (nw h 100 y0.toNatClampNeg y0.toNatClampNeg) Q) ∧
  (∀ (x0 : Nat) (y0 : Nat) (y1 : Nat) (st : List Value) (h : AH) (Q : Option Value → AH → Prop) (ht : hT h y1 = 4), WP 22 57 [.ref x0] (.ref y0 :: .ref y1 :: st) h Q ↔ WP 22 60 [.ref x0] (st) (sR h y1 10 y0) Q) ∧
  (∀ (x0 : Nat) (st : List Value) (h : AH) (Q : Option Value → AH → Prop), WP 22 60 [.ref x0] (st) h Q ↔ WP 22 61 [.ref x0] (.ref x0 :: st) h Q) ∧
  (∀ (x0 : Nat) (st : List Value) (h : AH) (Q : Option Value → AH → Prop), WP 22 61 [.ref x0] (st) h Q ↔ WP 22 63 [.ref x0] (.int (14) :: st) h Q) ∧
  (∀ (x0 : Nat) (y0 : Int32) (st : List Value) (h : AH) (Q : Option Value → AH → Prop) (h0 : 0 ≤ y0) (h1 : y0.toNatClampNeg ≤ 1048576), WP 22 63 [.ref x0] (.int y0 :: st) h Q ↔ WP 22 65 [.ref x0] (.ref (hN h) :: st) (nw h 100 y0.toNatClampNeg y0.toNatClampNeg) Q) ∧
  (∀ (x0 : Nat) (y0 : Nat) (y1 : Nat) (st : List Value) (h : AH) (Q : Option Value → AH → Prop) (ht : hT h y1 = 4), WP 22 65 [.ref x0] (.ref y0 :: .ref y1 :: st) h Q ↔ WP 22 68 [.ref x0] (st) (sR h y1 11 y0) Q) ∧
  (∀ (x0 : Nat) (st : List Value) (h : AH) (Q : Option Value → AH → Prop), WP 22 68 [.ref x0] (st) h Q ↔ WP 22 69 [.ref x0] (.ref x0 :: st) h Q) ∧
  (∀ (x0 : Nat) (st : List Value) (h : AH) (Q : Option Value → AH → Prop), WP 22 69 [.ref x0] (st) h Q ↔ WP 22 71 [.ref x0] (.int (14) :: st) h Q) ∧
  (∀ (x0 : Nat) (y0 : Int32) (st : List Value) (h : AH) (Q : Option Value → AH → Prop) (h0 : 0 ≤ y0) (h1 : y0.toNatClampNeg ≤ 1048576), WP 22 71 [.ref x0] (.int y0 :: st) h Q ↔ WP 22 73 [.ref x0] (.ref (hN h) :: st) (nw h 100 y0.toNatClampNeg y0.toNatClampNeg) Q) ∧
  (∀ (x0 : Nat) (y0 : Nat) (y1 : Nat) (st : List Value) (h : AH) (Q : Option Value → AH → Prop) (ht : hT h y1 = 4), WP 22 73 [.ref x0] (.ref y0 :: .ref y1 :: st) h Q ↔ WP 22 76 [.ref x0] (st) (sR h y1 12 y0) Q) ∧
  (∀ (x0 : Nat) (st : List Value) (h : AH) (Q : Option Value → AH → Prop), WP 22 76 [.ref x0] (st) h Q ↔ WP 22 77 [.ref x0] (.ref x0 :: st) h Q) ∧
  (∀ (x0 : Nat) (st : List Value) (h : AH) (Q : Option Value → AH → Prop), WP 22 77 [.ref x0] (st) h Q ↔ WP 22 79 [.ref x0] (.int (6) :: st) h Q) :=
  ⟨fun _ _ _ _ => WP_s (show ct 22 0 = some (.aload_n 0, 0, []) by decide +kernel) rfl,
  fun _ _ _ _ h0 => WH_obj (show ct 22 1 = some (.invokespecial 3, 1, [131, 124, 125]) by decide +kernel) h0 (Nat.le_of_ble_eq_true rfl),
  fun _ _ _ _ => WP_s (show ct 22 4 = some (.aload_n 0, 0, []) by decide +kernel) rfl,
  fun _ _ _ _ => WP_s (show ct 22 5 = some (.bipush 14, 0, []) by decide +kernel) rfl,
  fun _ _ _ _ _ h0 h1 => WH_newa (show ct 22 7 = some (.newarray .int, 1, [100, 209]) by decide +kernel) (by decide) h0 h1,
  fun _ _ _ _ _ _ ht => WH_pR (show ct 22 9 = some (.putfield 9, 1, [3, 4, 2, 1, 156]) by decide +kernel) ht,
  fun _ _ _ _ => WP_s (show ct 22 12 = some (.aload_n 0, 0, []) by decide +kernel) rfl,
  fun _ _ _ _ => WP_s (show ct 22 13 = some (.bipush 14, 0, []) by decide +kernel) rfl,
  fun _ _ _ _ _ h0 h1 => WH_newa (show ct 22 15 = some (.newarray .int, 1, [100, 209]) by decide +kernel) (by decide) h0 h1,
  fun _ _ _ _ _ _ ht => WH_pR (show ct 22 17 = some (.putfield 15, 1, [3, 5, 2, 1, 157]) by decide +kernel) ht,
  fun _ _ _ _ => WP_s (show ct 22 20 = some (.aload_n 0, 0, []) by decide +kernel) rfl,
  fun _ _ _ _ => WP_s (show ct 22 21 = some (.bipush 14, 0, []) by decide +kernel) rfl,
  fun _ _ _ _ _ h0 h1 => WH_newa (show ct 22 23 = some (.newarray .int, 1, [100, 209]) by decide +kernel) (by decide) h0 h1,
  fun _ _ _ _ _ _ ht => WH_pR (show ct 22 25 = some (.putfield 18, 1, [3, 6, 2, 1, 161]) by decide +kernel) ht,
  fun _ _ _ _ => WP_s (show ct 22 28 = some (.aload_n 0, 0, []) by decide +kernel) rfl,
  fun _ _ _ _ => WP_s (show ct 22 29 = some (.bipush 14, 0, []) by decide +kernel) rfl,
  fun _ _ _ _ _ h0 h1 => WH_newa (show ct 22 31 = some (.newarray .int, 1, [100, 209]) by decide +kernel) (by decide) h0 h1,
  fun _ _ _ _ _ _ ht => WH_pR (show ct 22 33 = some (.putfield 21, 1, [3, 7, 2, 1, 166]) by decide +kernel) ht,
  fun _ _ _ _ => WP_s (show ct 22 36 = some (.aload_n 0, 0, []) by decide +kernel) rfl,
  fun _ _ _ _ => WP_s (show ct 22 37 = some (.bipush 14, 0, []) by decide +kernel) rfl,
  fun _ _ _ _ _ h0 h1 => WH_newa (show ct 22 39 = some (.newarray .int, 1, [100, 209]) by decide +kernel) (by decide) h0 h1,
  fun _ _ _ _ _ _ ht => WH_pR (show ct 22 41 = some (.putfield 24, 1, [3, 8, 2, 1, 168]) by decide +kernel) ht,
  fun _ _ _ _ => WP_s (show ct 22 44 = some (.aload_n 0, 0, []) by decide +kernel) rfl,
  fun _ _ _ _ => WP_s (show ct 22 45 = some (.bipush 14, 0, []) by decide +kernel) rfl,
  fun _ _ _ _ _ h0 h1 => WH_newa (show ct 22 47 = some (.newarray .int, 1, [100, 209]) by decide +kernel) (by decide) h0 h1,
  fun _ _ _ _ _ _ ht => WH_pR (show ct 22 49 = some (.putfield 27, 1, [3, 9, 2, 1, 170]) by decide +kernel) ht,
  fun _ _ _ _ => WP_s (show ct 22 52 = some (.aload_n 0, 0, []) by decide +kernel) rfl,
  fun _ _ _ _ => WP_s (show ct 22 53 = some (.bipush 14, 0, []) by decide +kernel) rfl,
  fun _ _ _ _ _ h0 h1 => WH_newa (show ct 22 55 = some (.newarray .int, 1, [100, 209]) by decide +kernel) (by decide) h0 h1,
  fun _ _ _ _ _ _ ht => WH_pR (show ct 22 57 = some (.putfield 30, 1, [3, 10, 2, 1, 172]) by decide +kernel) ht,
  fun _ _ _ _ => WP_s (show ct 22 60 = some (.aload_n 0, 0, []) by decide +kernel) rfl,
  fun _ _ _ _ => WP_s (show ct 22 61 = some (.bipush 14, 0, []) by decide +kernel) rfl,
  fun _ _ _ _ _ h0 h1 => WH_newa (show ct 22 63 = some (.newarray .int, 1, [100, 209]) by decide +kernel) (by decide) h0 h1,
  fun _ _ _ _ _ _ ht => WH_pR (show ct 22 65 = some (.putfield 33, 1, [3, 11, 2, 1, 174]) by decide +kernel) ht,
  fun _ _ _ _ => WP_s (show ct 22 68 = some (.aload_n 0, 0, []) by decide +kernel) rfl,
  fun _ _ _ _ => WP_s (show ct 22 69 = some (.bipush 14, 0, []) by decide +kernel) rfl,
  fun _ _ _ _ _ h0 h1 => WH_newa (show ct 22 71 = some (.newarray .int, 1, [100, 209]) by decide +kernel) (by decide) h0 h1,
  fun _ _ _ _ _ _ ht => WH_pR (show ct 22 73 = some (.putfield 36, 1, [3, 12, 2, 1, 176]) by decide +kernel) ht,
  fun _ _ _ _ => WP_s (show ct 22 76 = some (.aload_n 0, 0, []) by decide +kernel) rfl,
  fun _ _ _ _ => WP_s (show ct 22 77 = some (.bipush 6, 0, []) by decide +kernel) rfl⟩
set_option maxRecDepth 10000 in
theorem w22_b : (∀ (x0 : Nat) (y0 : Int32) (st : List Value) (h : AH) (Q : Option Value → AH → Prop) (h0 : 0 ≤ y0) (h1 : y0.toNatClampNeg ≤ 1048576), WP 22 79 [.ref x0] (.int y0 :: st) h Q ↔ WP 22 81 [.ref x0] (.ref (hN h) :: st) (nw h 100 y0.toNatClampNeg y0.toNatClampNeg) Q) ∧
  (∀ (x0 : Nat) (y0 : Nat) (y1 : Nat) (st : List Value) (h : AH) (Q : Option Value → AH → Prop) (ht : hT h y1 = 4), WP 22 81 [.ref x0] (.ref y0 :: .ref y1 :: st) h Q ↔ WP 22 84 [.ref x0] (st) (sR h y1 13 y0) Q) ∧
  (∀ (x0 : Nat) (h : AH) (Q : Option Value → AH → Prop), WP 22 84 [.ref x0] ([]) h Q ↔ Q none h) :=
  ⟨fun _ _ _ _ _ h0 h1 => WH_newa (show ct 22 79 = some (.newarray .int, 1, [100, 209]) by decide +kernel) (by decide) h0 h1,
  fun _ _ _ _ _ _ ht => WH_pR (show ct 22 81 = some (.putfield 39, 1, [3, 13, 2, 1, 178]) by decide +kernel) ht,
  fun _ _ _ => WR_v (show ct 22 84 = some (.return_, 2, [0]) by decide +kernel)⟩
/-- all of 22 -/
def w22_n : Nat := 2
/-! 23: FewBowls$Net.clear()V; loop heads [] -/
set_option maxRecDepth 10000 in
theorem w23 : (∀ (x0 : Nat) (st : List Value) (h : AH) (Q : Option Value → AH → Prop), WP 23 0 [.ref x0] (st) h Q ↔ WP 23 1 [.ref x0] (.ref x0 :: st) h Q) ∧
  (∀ (x0 : Nat) (st : List Value) (h : AH) (Q : Option Value → AH → Prop), WP 23 1 [.ref x0] (st) h Q ↔ WP 23 2 [.ref x0] (.int (0) :: st) h Q) ∧
  (∀ (x0 : Nat) (y0 : Int32) (y1 : Nat) (st : List Value) (h : AH) (Q : Option Value → AH → Prop) (ht : hT h y1 = 4), WP 23 2 [.ref x0] (.int y0 :: .ref y1 :: st) h Q ↔ WP 23 5 [.ref x0] (st) (sI h y1 0 y0) Q) ∧
  (∀ (x0 : Nat) (st : List Value) (h : AH) (Q : Option Value → AH → Prop), WP 23 5 [.ref x0] (st) h Q ↔ WP 23 6 [.ref x0] (.ref x0 :: st) h Q) ∧
  (∀ (x0 : Nat) (st : List Value) (h : AH) (Q : Option Value → AH → Prop), WP 23 6 [.ref x0] (st) h Q ↔ WP 23 7 [.ref x0] (.int (0) :: st) h Q) ∧
  (∀ (x0 : Nat) (y0 : Int32) (y1 : Nat) (st : List Value) (h : AH) (Q : Option Value → AH → Prop) (ht : hT h y1 = 4), WP 23 7 [.ref x0] (.int y0 :: .ref y1 :: st) h Q ↔ WP 23 10 [.ref x0] (st) (sI h y1 1 y0) Q) ∧
  (∀ (x0 : Nat) (st : List Value) (h : AH) (Q : Option Value → AH → Prop), WP 23 10 [.ref x0] (st) h Q ↔ WP 23 11 [.ref x0] (.ref x0 :: st) h Q) ∧
  (∀ (x0 : Nat) (st : List Value) (h : AH) (Q : Option Value → AH → Prop), WP 23 11 [.ref x0] (st) h Q ↔ WP 23 12 [.ref x0] (.int (0) :: st) h Q) ∧
  (∀ (x0 : Nat) (y0 : Int32) (y1 : Nat) (st : List Value) (h : AH) (Q : Option Value → AH → Prop) (ht : hT h y1 = 4), WP 23 12 [.ref x0] (.int y0 :: .ref y1 :: st) h Q ↔ WP 23 15 [.ref x0] (st) (sI h y1 2 y0) Q) ∧
  (∀ (x0 : Nat) (st : List Value) (h : AH) (Q : Option Value → AH → Prop), WP 23 15 [.ref x0] (st) h Q ↔ WP 23 16 [.ref x0] (.ref x0 :: st) h Q) ∧
  (∀ (x0 : Nat) (st : List Value) (h : AH) (Q : Option Value → AH → Prop), WP 23 16 [.ref x0] (st) h Q ↔ WP 23 17 [.ref x0] (.int (0) :: st) h Q) ∧
  (∀ (x0 : Nat) (y0 : Int32) (y1 : Nat) (st : List Value) (h : AH) (Q : Option Value → AH → Prop) (ht : hT h y1 = 4), WP 23 17 [.ref x0] (.int y0 :: .ref y1 :: st) h Q ↔ WP 23 20 [.ref x0] (st) (sI h y1 3 y0) Q) ∧
  (∀ (x0 : Nat) (h : AH) (Q : Option Value → AH → Prop), WP 23 20 [.ref x0] ([]) h Q ↔ Q none h) :=
  ⟨fun _ _ _ _ => WP_s (show ct 23 0 = some (.aload_n 0, 0, []) by decide +kernel) rfl,
  fun _ _ _ _ => WP_s (show ct 23 1 = some (.iconst 0, 0, []) by decide +kernel) rfl,
  fun _ _ _ _ _ _ ht => WH_pI (show ct 23 2 = some (.putfield 42, 1, [3, 0, 0, 0, 132]) by decide +kernel) ht,
  fun _ _ _ _ => WP_s (show ct 23 5 = some (.aload_n 0, 0, []) by decide +kernel) rfl,
  fun _ _ _ _ => WP_s (show ct 23 6 = some (.iconst 0, 0, []) by decide +kernel) rfl,
  fun _ _ _ _ _ _ ht => WH_pI (show ct 23 7 = some (.putfield 46, 1, [3, 1, 0, 0, 140]) by decide +kernel) ht,
  fun _ _ _ _ => WP_s (show ct 23 10 = some (.aload_n 0, 0, []) by decide +kernel) rfl,
  fun _ _ _ _ => WP_s (show ct 23 11 = some (.iconst 0, 0, []) by decide +kernel) rfl,
  fun _ _ _ _ _ _ ht => WH_pI (show ct 23 12 = some (.putfield 49, 1, [3, 2, 0, 0, 144]) by decide +kernel) ht,
  fun _ _ _ _ => WP_s (show ct 23 15 = some (.aload_n 0, 0, []) by decide +kernel) rfl,
  fun _ _ _ _ => WP_s (show ct 23 16 = some (.iconst 0, 0, []) by decide +kernel) rfl,
  fun _ _ _ _ _ _ ht => WH_pI (show ct 23 17 = some (.putfield 52, 1, [3, 3, 0, 0, 153]) by decide +kernel) ht,
  fun _ _ _ => WR_v (show ct 23 20 = some (.return_, 2, [0]) by decide +kernel)⟩
/-! 24: FewBowls$Net.has(I)Z; loop heads [] -/
set_option maxRecDepth 10000 in
theorem w24 : (∀ (x0 : Nat) (x1 : Int32) (st : List Value) (h : AH) (Q : Option Value → AH → Prop), WP 24 0 [.ref x0, .int x1] (st) h Q ↔ WP 24 1 [.ref x0, .int x1] (.int x1 :: st) h Q) ∧
  (∀ (x0 : Nat) (x1 : Int32) (y0 : Int32) (st : List Value) (h : AH) (Q : Option Value → AH → Prop), WP 24 1 [.ref x0, .int x1] (.int y0 :: st) h Q ↔ ((y0 < 0 → WP 24 16 [.ref x0, .int x1] (st) h Q) ∧ (¬ y0 < 0 → WP 24 4 [.ref x0, .int x1] (st) h Q))) ∧
  (∀ (x0 : Nat) (x1 : Int32) (st : List Value) (h : AH) (Q : Option Value → AH → Prop), WP 24 4 [.ref x0, .int x1] (st) h Q ↔ WP 24 5 [.ref x0, .int x1] (.int x1 :: st) h Q) ∧
  (∀ (x0 : Nat) (x1 : Int32) (st : List Value) (h : AH) (Q : Option Value → AH → Prop), WP 24 5 [.ref x0, .int x1] (st) h Q ↔ WP 24 6 [.ref x0, .int x1] (.ref x0 :: st) h Q) ∧
  (∀ (x0 : Nat) (x1 : Int32) (y0 : Nat) (st : List Value) (h : AH) (Q : Option Value → AH → Prop) (ht : hT h y0 = 4), WP 24 6 [.ref x0, .int x1] (.ref y0 :: st) h Q ↔ WP 24 9 [.ref x0, .int x1] (.int (hI h y0 0) :: st) h Q) ∧
  (∀ (x0 : Nat) (x1 : Int32) (y0 : Int32) (y1 : Int32) (st : List Value) (h : AH) (Q : Option Value → AH → Prop), WP 24 9 [.ref x0, .int x1] (.int y0 :: .int y1 :: st) h Q ↔ ((y0 ≤ y1 → WP 24 16 [.ref x0, .int x1] (st) h Q) ∧ (¬ y0 ≤ y1 → WP 24 12 [.ref x0, .int x1] (st) h Q))) ∧
  (∀ (x0 : Nat) (x1 : Int32) (st : List Value) (h : AH) (Q : Option Value → AH → Prop), WP 24 12 [.ref x0, .int x1] (st) h Q ↔ WP 24 13 [.ref x0, .int x1] (.int (1) :: st) h Q) ∧
  (∀ (x0 : Nat) (x1 : Int32) (st : List Value) (h : AH) (Q : Option Value → AH → Prop), WP 24 13 [.ref x0, .int x1] (st) h Q ↔ WP 24 17 [.ref x0, .int x1] (st) h Q) ∧
  (∀ (x0 : Nat) (x1 : Int32) (st : List Value) (h : AH) (Q : Option Value → AH → Prop), WP 24 16 [.ref x0, .int x1] (st) h Q ↔ WP 24 17 [.ref x0, .int x1] (.int (0) :: st) h Q) ∧
  (∀ (x0 : Nat) (x1 : Int32) (y0 : Int32) (h : AH) (Q : Option Value → AH → Prop) (hz : y0 = 0 ∨ y0 = 1), WP 24 17 [.ref x0, .int x1] ([.int y0]) h Q ↔ Q (some (.int y0)) h) :=
  ⟨fun _ _ _ _ _ => WP_s (show ct 24 0 = some (.iload_n 1, 0, []) by decide +kernel) rfl,
  fun _ _ _ _ _ _ => WZ_lt (show ct 24 1 = some (.ifCond .lt 15, 0, [16]) by decide +kernel) (by decide),
  fun _ _ _ _ _ => WP_s (show ct 24 4 = some (.iload_n 1, 0, []) by decide +kernel) rfl,
  fun _ _ _ _ _ => WP_s (show ct 24 5 = some (.aload_n 0, 0, []) by decide +kernel) rfl,
  fun _ _ _ _ _ _ ht => WH_gI (show ct 24 6 = some (.getfield 42, 1, [3, 0, 0, 132]) by decide +kernel) (by decide) ht,
  fun _ _ _ _ _ _ _ => WI_ge (show ct 24 9 = some (.if_icmp .ge 7, 0, [16]) by decide +kernel) (by decide),
  fun _ _ _ _ _ => WP_s (show ct 24 12 = some (.iconst 1, 0, []) by decide +kernel) rfl,
  fun _ _ _ _ _ => WP_s (show ct 24 13 = some (.goto 4, 0, [17]) by decide +kernel) rfl,
  fun _ _ _ _ _ => WP_s (show ct 24 16 = some (.iconst 0, 0, []) by decide +kernel) rfl,
  fun _ _ _ _ _ hz => WR_z (show ct 24 17 = some (.ireturn, 2, [1]) by decide +kernel) hz⟩
/-! 25: FewBowls$Net.sets()I; loop heads [] -/
set_option maxRecDepth 10000 in
theorem w25 : (∀ (x0 : Nat) (st : List Value) (h : AH) (Q : Option Value → AH → Prop), WP 25 0 [.ref x0] (st) h Q ↔ WP 25 1 [.ref x0] (.int (1) :: st) h Q) ∧
  (∀ (x0 : Nat) (st : List Value) (h : AH) (Q : Option Value → AH → Prop), WP 25 1 [.ref x0] (st) h Q ↔ WP 25 2 [.ref x0] (.ref x0 :: st) h Q) ∧
  (∀ (x0 : Nat) (y0 : Nat) (st : List Value) (h : AH) (Q : Option Value → AH → Prop) (ht : hT h y0 = 4), WP 25 2 [.ref x0] (.ref y0 :: st) h Q ↔ WP 25 5 [.ref x0] (.int (hI h y0 0) :: st) h Q) ∧
  (∀ (x0 : Nat) (y0 : Int32) (y1 : Int32) (st : List Value) (h : AH) (Q : Option Value → AH → Prop), WP 25 5 [.ref x0] (.int y0 :: .int y1 :: st) h Q ↔ WP 25 6 [.ref x0] (.int (y1 <<< (y0 &&& 31)) :: st) h Q) ∧
  (∀ (x0 : Nat) (y0 : Int32) (h : AH) (Q : Option Value → AH → Prop), WP 25 6 [.ref x0] ([.int y0]) h Q ↔ Q (some (.int y0)) h) :=
  ⟨fun _ _ _ _ => WP_s (show ct 25 0 = some (.iconst 1, 0, []) by decide +kernel) rfl,
  fun _ _ _ _ => WP_s (show ct 25 1 = some (.aload_n 0, 0, []) by decide +kernel) rfl,
  fun _ _ _ _ _ ht => WH_gI (show ct 25 2 = some (.getfield 42, 1, [3, 0, 0, 132]) by decide +kernel) (by decide) ht,
  fun _ _ _ _ _ _ => WP_s (show ct 25 5 = some (.ishl, 0, []) by decide +kernel) rfl,
  fun _ _ _ _ => WR_i (show ct 25 6 = some (.ireturn, 2, [0]) by decide +kernel)⟩
/-! 26: FewBowls$Net.find(I)I; loop heads [2] -/
theorem w26_2 : ∀ (x0 : Nat) (x1 : Int32) (x2 : Int32) (st : List Value) (h : AH) (Q : Option Value → AH → Prop), WP 26 2 [.ref x0, .int x1, .int x2] (st) h Q ↔ WP 26 3 [.ref x0, .int x1, .int x2] (.int x2 :: st) h Q := fun _ _ _ _ _ _ => WP_s (show ct 26 2 = some (.iload_n 2, 0, []) by decide +kernel) rfl
set_option maxRecDepth 10000 in
theorem w26 : (∀ (x0 : Nat) (x1 : Int32) (st : List Value) (h : AH) (Q : Option Value → AH → Prop), WP 26 0 [.ref x0, .int x1, .retAddr 0] (st) h Q ↔ WP 26 1 [.ref x0, .int x1, .retAddr 0] (.int (0) :: st) h Q) ∧
  (∀ (x0 : Nat) (x1 : Int32) (y0 : Int32) (st : List Value) (h : AH) (Q : Option Value → AH → Prop), WP 26 1 [.ref x0, .int x1, .retAddr 0] (.int y0 :: st) h Q ↔ WP 26 2 [.ref x0, .int x1, .int y0] (st) h Q) ∧
  (∀ (x0 : Nat) (x1 : Int32) (x2 : Int32) (st : List Value) (h : AH) (Q : Option Value → AH → Prop), WP 26 3 [.ref x0, .int x1, .int x2] (st) h Q ↔ WP 26 4 [.ref x0, .int x1, .int x2] (.ref x0 :: st) h Q) ∧
  (∀ (x0 : Nat) (x1 : Int32) (x2 : Int32) (y0 : Nat) (st : List Value) (h : AH) (Q : Option Value → AH → Prop) (ht : hT h y0 = 4), WP 26 4 [.ref x0, .int x1, .int x2] (.ref y0 :: st) h Q ↔ WP 26 7 [.ref x0, .int x1, .int x2] (.int (hI h y0 0) :: st) h Q) ∧
  (∀ (x0 : Nat) (x1 : Int32) (x2 : Int32) (y0 : Int32) (y1 : Int32) (st : List Value) (h : AH) (Q : Option Value → AH → Prop), WP 26 7 [.ref x0, .int x1, .int x2] (.int y0 :: .int y1 :: st) h Q ↔ ((y0 ≤ y1 → WP 26 28 [.ref x0, .int x1, .int x2] (st) h Q) ∧ (¬ y0 ≤ y1 → WP 26 10 [.ref x0, .int x1, .int x2] (st) h Q))) ∧
  (∀ (x0 : Nat) (x1 : Int32) (x2 : Int32) (st : List Value) (h : AH) (Q : Option Value → AH → Prop), WP 26 10 [.ref x0, .int x1, .int x2] (st) h Q ↔ WP 26 11 [.ref x0, .int x1, .int x2] (.ref x0 :: st) h Q) ∧
  (∀ (x0 : Nat) (x1 : Int32) (x2 : Int32) (y0 : Nat) (st : List Value) (h : AH) (Q : Option Value → AH → Prop) (ht : hT h y0 = 4), WP 26 11 [.ref x0, .int x1, .int x2] (.ref y0 :: st) h Q ↔ WP 26 14 [.ref x0, .int x1, .int x2] (.ref (hR h y0 4) :: st) h Q) ∧
  (∀ (x0 : Nat) (x1 : Int32) (x2 : Int32) (st : List Value) (h : AH) (Q : Option Value → AH → Prop), WP 26 14 [.ref x0, .int x1, .int x2] (st) h Q ↔ WP 26 15 [.ref x0, .int x1, .int x2] (.int x2 :: st) h Q) ∧
  (∀ (x0 : Nat) (x1 : Int32) (x2 : Int32) (y0 : Int32) (y1 : Nat) (st : List Value) (h : AH) (Q : Option Value → AH → Prop) (ht : hT h y1 = 100 ∨ hT h y1 = 110) (hi : inb y0 (hL h y1) = true), WP 26 15 [.ref x0, .int x1, .int x2] (.int y0 :: .ref y1 :: st) h Q ↔ WP 26 16 [.ref x0, .int x1, .int x2] (.int (hI h y1 y0.toNatClampNeg) :: st) h Q) ∧
  (∀ (x0 : Nat) (x1 : Int32) (x2 : Int32) (st : List Value) (h : AH) (Q : Option Value → AH → Prop), WP 26 16 [.ref x0, .int x1, .int x2] (st) h Q ↔ WP 26 17 [.ref x0, .int x1, .int x2] (.int x1 :: st) h Q) ∧
  (∀ (x0 : Nat) (x1 : Int32) (x2 : Int32) (y0 : Int32) (y1 : Int32) (st : List Value) (h : AH) (Q : Option Value → AH → Prop), WP 26 17 [.ref x0, .int x1, .int x2] (.int y0 :: .int y1 :: st) h Q ↔ ((¬ y1 = y0 → WP 26 22 [.ref x0, .int x1, .int x2] (st) h Q) ∧ (y1 = y0 → WP 26 20 [.ref x0, .int x1, .int x2] (st) h Q))) ∧
  (∀ (x0 : Nat) (x1 : Int32) (x2 : Int32) (st : List Value) (h : AH) (Q : Option Value → AH → Prop), WP 26 20 [.ref x0, .int x1, .int x2] (st) h Q ↔ WP 26 21 [.ref x0, .int x1, .int x2] (.int x2 :: st) h Q) ∧
  (∀ (x0 : Nat) (x1 : Int32) (x2 : Int32) (y0 : Int32) (h : AH) (Q : Option Value → AH → Prop), WP 26 21 [.ref x0, .int x1, .int x2] ([.int y0]) h Q ↔ Q (some (.int y0)) h) ∧
  (∀ (x0 : Nat) (x1 : Int32) (x2 : Int32) (st : List Value) (h : AH) (Q : Option Value → AH → Prop), WP 26 22 [.ref x0, .int x1, .int x2] (st) h Q ↔ WP 26 25 [.ref x0, .int x1, .int (x2 + (1))] (st) h Q) ∧
  (∀ (x0 : Nat) (x1 : Int32) (x2 : Int32) (st : List Value) (h : AH) (Q : Option Value → AH → Prop), WP 26 25 [.ref x0, .int x1, .int x2] (st) h Q ↔ WP 26 2 [.ref x0, .int x1, .int x2] (st) h Q) ∧
  (∀ (x0 : Nat) (x1 : Int32) (x2 : Int32) (st : List Value) (h : AH) (Q : Option Value → AH → Prop), WP 26 28 [.ref x0, .int x1, .int x2] (st) h Q ↔ WP 26 29 [.ref x0, .int x1, .int x2] (.int (-1) :: st) h Q) ∧
  (∀ (x0 : Nat) (x1 : Int32) (x2 : Int32) (y0 : Int32) (h : AH) (Q : Option Value → AH → Prop), WP 26 29 [.ref x0, .int x1, .int x2] ([.int y0]) h Q ↔ Q (some (.int y0)) h) :=
  ⟨fun _ _ _ _ _ => WP_s (show ct 26 0 = some (.iconst 0, 0, []) by decide +kernel) rfl,
  fun _ _ _ _ _ _ => WP_s (show ct 26 1 = some (.istore_n 2, 0, []) by decide +kernel) rfl,
  fun _ _ _ _ _ _ => WP_s (show ct 26 3 = some (.aload_n 0, 0, []) by decide +kernel) rfl,
  fun _ _ _ _ _ _ _ ht => WH_gI (show ct 26 4 = some (.getfield 42, 1, [3, 0, 0, 132]) by decide +kernel) (by decide) ht,
  fun _ _ _ _ _ _ _ _ => WI_ge (show ct 26 7 = some (.if_icmp .ge 21, 0, [28]) by decide +kernel) (by decide),
  fun _ _ _ _ _ _ => WP_s (show ct 26 10 = some (.aload_n 0, 0, []) by decide +kernel) rfl,
  fun _ _ _ _ _ _ _ ht => WH_gR (show ct 26 11 = some (.getfield 9, 1, [3, 4, 2, 156]) by decide +kernel) ht,
  fun _ _ _ _ _ _ => WP_s (show ct 26 14 = some (.iload_n 2, 0, []) by decide +kernel) rfl,
  fun _ _ _ _ _ _ _ _ ht hi => WH_iald (show ct 26 15 = some (.iaload, 1, []) by decide +kernel) ht hi,
  fun _ _ _ _ _ _ => WP_s (show ct 26 16 = some (.iload_n 1, 0, []) by decide +kernel) rfl,
  fun _ _ _ _ _ _ _ _ => WI_ne (show ct 26 17 = some (.if_icmp .ne 5, 0, [22]) by decide +kernel) (by decide),
  fun _ _ _ _ _ _ => WP_s (show ct 26 20 = some (.iload_n 2, 0, []) by decide +kernel) rfl,
  fun _ _ _ _ _ _ => WR_i (show ct 26 21 = some (.ireturn, 2, [0]) by decide +kernel),
  fun _ _ _ _ _ _ => WP_s (show ct 26 22 = some (.iinc 2 1, 0, []) by decide +kernel) rfl,
  fun _ _ _ _ _ _ => WP_s (show ct 26 25 = some (.goto (-23), 0, [2]) by decide +kernel) rfl,
  fun _ _ _ _ _ _ => WP_s (show ct 26 28 = some (.iconst (-1), 0, []) by decide +kernel) rfl,
  fun _ _ _ _ _ _ => WR_i (show ct 26 29 = some (.ireturn, 2, [0]) by decide +kernel)⟩
/-! 27: FewBowls$Net.add(III)V; loop heads [] -/
set_option maxRecDepth 10000 in
theorem w27_a : (∀ (x0 : Nat) (x1 : Int32) (x2 : Int32) (x3 : Int32) (st : List Value) (h : AH) (Q : Option Value → AH → Prop), WP 27 0 [.ref x0, .int x1, .int x2, .int x3] (st) h Q ↔ WP 27 1 [.ref x0, .int x1, .int x2, .int x3] (.ref x0 :: st) h Q) ∧
  (∀ (x0 : Nat) (x1 : Int32) (x2 : Int32) (x3 : Int32) (y0 : Nat) (st : List Value) (h : AH) (Q : Option Value → AH → Prop) (ht : hT h y0 = 4), WP 27 1 [.ref x0, .int x1, .int x2, .int x3] (.ref y0 :: st) h Q ↔ WP 27 4 [.ref x0, .int x1, .int x2, .int x3] (.int (hI h y0 0) :: st) h Q) ∧
  (∀ (x0 : Nat) (x1 : Int32) (x2 : Int32) (x3 : Int32) (st : List Value) (h : AH) (Q : Option Value → AH → Prop), WP 27 4 [.ref x0, .int x1, .int x2, .int x3] (st) h Q ↔ WP 27 6 [.ref x0, .int x1, .int x2, .int x3] (.int (14) :: st) h Q) ∧
  (∀ (x0 : Nat) (x1 : Int32) (x2 : Int32) (x3 : Int32) (y0 : Int32) (y1 : Int32) (st : List Value) (h : AH) (Q : Option Value → AH → Prop), WP 27 6 [.ref x0, .int x1, .int x2, .int x3] (.int y0 :: .int y1 :: st) h Q ↔ ((y1 < y0 → WP 27 10 [.ref x0, .int x1, .int x2, .int x3] (st) h Q) ∧ (¬ y1 < y0 → WP 27 9 [.ref x0, .int x1, .int x2, .int x3] (st) h Q))) ∧
  (∀ (x0 : Nat) (x1 : Int32) (x2 : Int32) (x3 : Int32) (h : AH) (Q : Option Value → AH → Prop), WP 27 9 [.ref x0, .int x1, .int x2, .int x3] ([]) h Q ↔ Q none h) ∧
  (∀ (x0 : Nat) (x1 : Int32) (x2 : Int32) (x3 : Int32) (st : List Value) (h : AH) (Q : Option Value → AH → Prop), WP 27 10 [.ref x0, .int x1, .int x2, .int x3] (st) h Q ↔ WP 27 11 [.ref x0, .int x1, .int x2, .int x3] (.ref x0 :: st) h Q) ∧
  (∀ (x0 : Nat) (x1 : Int32) (x2 : Int32) (x3 : Int32) (y0 : Nat) (st : List Value) (h : AH) (Q : Option Value → AH → Prop) (ht : hT h y0 = 4), WP 27 11 [.ref x0, .int x1, .int x2, .int x3] (.ref y0 :: st) h Q ↔ WP 27 14 [.ref x0, .int x1, .int x2, .int x3] (.ref (hR h y0 4) :: st) h Q) ∧
  (∀ (x0 : Nat) (x1 : Int32) (x2 : Int32) (x3 : Int32) (st : List Value) (h : AH) (Q : Option Value → AH → Prop), WP 27 14 [.ref x0, .int x1, .int x2, .int x3] (st) h Q ↔ WP 27 15 [.ref x0, .int x1, .int x2, .int x3] (.ref x0 :: st) h Q) ∧
  (∀ (x0 : Nat) (x1 : Int32) (x2 : Int32) (x3 : Int32) (y0 : Nat) (st : List Value) (h : AH) (Q : Option Value → AH → Prop) (ht : hT h y0 = 4), WP 27 15 [.ref x0, .int x1, .int x2, .int x3] (.ref y0 :: st) h Q ↔ WP 27 18 [.ref x0, .int x1, .int x2, .int x3] (.int (hI h y0 0) :: st) h Q) ∧
  (∀ (x0 : Nat) (x1 : Int32) (x2 : Int32) (x3 : Int32) (st : List Value) (h : AH) (Q : Option Value → AH → Prop), WP 27 18 [.ref x0, .int x1, .int x2, .int x3] (st) h Q ↔ WP 27 19 [.ref x0, .int x1, .int x2, .int x3] (.int x1 :: st) h Q) ∧
  (∀ (x0 : Nat) (x1 : Int32) (x2 : Int32) (x3 : Int32) (y0 : Int32) (y1 : Int32) (y2 : Nat) (st : List Value) (h : AH) (Q : Option Value → AH → Prop) (ht : hT h y2 = 100) (hi : inb y1 (hL h y2) = true), WP 27 19 [.ref x0, .int x1, .int x2, .int x3] (.int y0 :: .int y1 :: .ref y2 :: st) h Q ↔ WP 27 20 [.ref x0, .int x1, .int x2, .int x3] (st) (sI h y2 y1.toNatClampNeg y0) Q) ∧
  (∀ (x0 : Nat) (x1 : Int32) (x2 : Int32) (x3 : Int32) (st : List Value) (h : AH) (Q : Option Value → AH → Prop), WP 27 20 [.ref x0, .int x1, .int x2, .int x3] (st) h Q ↔ WP 27 21 [.ref x0, .int x1, .int x2, .int x3] (.ref x0 :: st) h Q) ∧
  (∀ (x0 : Nat) (x1 : Int32) (x2 : Int32) (x3 : Int32) (y0 : Nat) (st : List Value) (h : AH) (Q : Option Value → AH → Prop) (ht : hT h y0 = 4), WP 27 21 [.ref x0, .int x1, .int x2, .int x3] (.ref y0 :: st) h Q ↔ WP 27 24 [.ref x0, .int x1, .int x2, .int x3] (.ref (hR h y0 6) :: st) h Q) ∧
  (∀ (x0 : Nat) (x1 : Int32) (x2 : Int32) (x3 : Int32) (st : List Value) (h : AH) (Q : Option Value → AH → Prop), WP 27 24 [.ref x0, .int x1, .int x2, .int x3] (st) h Q ↔ WP 27 25 [.ref x0, .int x1, .int x2, .int x3] (.ref x0 :: st) h Q) ∧
  (∀ (x0 : Nat) (x1 : Int32) (x2 : Int32) (x3 : Int32) (y0 : Nat) (st : List Value) (h : AH) (Q : Option Value → AH → Prop) (ht : hT h y0 = 4), WP 27 25 [.ref x0, .int x1, .int x2, .int x3] (.ref y0 :: st) h Q ↔ WP 27 28 [.ref x0, .int x1, .int x2, .int x3] (.int (hI h y0 0) :: st) h Q) ∧
  (∀ (x0 : Nat) (x1 : Int32) (x2 : Int32) (x3 : Int32) (st : List Value) (h : AH) (Q : Option Value → AH → Prop), WP 27 28 [.ref x0, .int x1, .int x2, .int x3] (st) h Q ↔ WP 27 29 [.ref x0, .int x1, .int x2, .int x3] (.int x2 :: st) h Q) ∧
  (∀ (x0 : Nat) (x1 : Int32) (x2 : Int32) (x3 : Int32) (y0 : Int32) (y1 : Int32) (y2 : Nat) (st : List Value) (h : AH) (Q : Option Value → AH → Prop) (ht : hT h y2 = 100) (hi : inb y1 (hL h y2) = true), WP 27 29 [.ref x0, .int x1, .int x2, .int x3] (.int y0 :: .int y1 :: .ref y2 :: st) h Q ↔ WP 27 30 [.ref x0, .int x1, .int x2, .int x3] (st) (sI h y2 y1.toNatClampNeg y0) Q) ∧
  (∀ (x0 : Nat) (x1 : Int32) (x2 : Int32) (x3 : Int32) (st : List Value) (h : AH) (Q : Option Value → AH → Prop), WP 27 30 [.ref x0, .int x1, .int x2, .int x3] (st) h Q ↔ WP 27 31 [.ref x0, .int x1, .int x2, .int x3] (.ref x0 :: st) h Q) ∧
  (∀ (x0 : Nat) (x1 : Int32) (x2 : Int32) (x3 : Int32) (y0 : Nat) (st : List Value) (h : AH) (Q : Option Value → AH → Prop) (ht : hT h y0 = 4), WP 27 31 [.ref x0, .int x1, .int x2, .int x3] (.ref y0 :: st) h Q ↔ WP 27 34 [.ref x0, .int x1, .int x2, .int x3] (.ref (hR h y0 5) :: st) h Q) ∧
  (∀ (x0 : Nat) (x1 : Int32) (x2 : Int32) (x3 : Int32) (st : List Value) (h : AH) (Q : Option Value → AH → Prop), WP 27 34 [.ref x0, .int x1, .int x2, .int x3] (st) h Q ↔ WP 27 35 [.ref x0, .int x1, .int x2, .int x3] (.ref x0 :: st) h Q) ∧
  (∀ (x0 : Nat) (x1 : Int32) (x2 : Int32) (x3 : Int32) (y0 : Nat) (st : List Value) (h : AH) (Q : Option Value → AH → Prop) (ht : hT h y0 = 4), WP 27 35 [.ref x0, .int x1, .int x2, .int x3] (.ref y0 :: st) h Q ↔ WP 27 38 [.ref x0, .int x1, .int x2, .int x3] (.int (hI h y0 0) :: st) h Q) ∧
  (∀ (x0 : Nat) (x1 : Int32) (x2 : Int32) (x3 : Int32) (st : List Value) (h : AH) (Q : Option Value → AH → Prop), WP 27 38 [.ref x0, .int x1, .int x2, .int x3] (st) h Q ↔ WP 27 39 [.ref x0, .int x1, .int x2, .int x3] (.int x3 :: st) h Q) ∧
  (∀ (x0 : Nat) (x1 : Int32) (x2 : Int32) (x3 : Int32) (y0 : Int32) (y1 : Int32) (y2 : Nat) (st : List Value) (h : AH) (Q : Option Value → AH → Prop) (ht : hT h y2 = 100) (hi : inb y1 (hL h y2) = true), WP 27 39 [.ref x0, .int x1, .int x2, .int x3] (.int y0 :: .int y1 :: .ref y2 :: st) h Q ↔ WP 27 40 [.ref x0, .int x1, .int x2, .int x3] (st) (sI h y2 y1.toNatClampNeg y0) Q) ∧
  (∀ (x0 : Nat) (x1 : Int32) (x2 : Int32) (x3 : Int32) (st : List Value) (h : AH) (Q : Option Value → AH → Prop), WP 27 40 [.ref x0, .int x1, .int x2, .int x3] (st) h Q ↔ WP 27 41 [.ref x0, .int x1, .int x2, .int x3] (.int x2 :: st) h Q) ∧
  (∀ (x0 : Nat) (x1 : Int32) (x2 : Int32) (x3 : Int32) (y0 : Int32) (st : List Value) (h : AH) (Q : Option Value → AH → Prop), WP 27 41 [.ref x0, .int x1, .int x2, .int x3] (.int y0 :: st) h Q ↔ ((¬ y0 = 0 → WP 27 59 [.ref x0, .int x1, .int x2, .int x3] (st) h Q) ∧ (y0 = 0 → WP 27 44 [.ref x0, .int x1, .int x2, .int x3] (st) h Q))) ∧
  (∀ (x0 : Nat) (x1 : Int32) (x2 : Int32) (x3 : Int32) (st : List Value) (h : AH) (Q : Option Value → AH → Prop), WP 27 44 [.ref x0, .int x1, .int x2, .int x3] (st) h Q ↔ WP 27 45 [.ref x0, .int x1, .int x2, .int x3] (.ref x0 :: st) h Q) ∧
  (∀ (x0 : Nat) (x1 : Int32) (x2 : Int32) (x3 : Int32) (y0 : Nat) (st : List Value) (h : AH) (Q : Option Value → AH → Prop), WP 27 45 [.ref x0, .int x1, .int x2, .int x3] (.ref y0 :: st) h Q ↔ WP 27 46 [.ref x0, .int x1, .int x2, .int x3] (.ref y0 :: .ref y0 :: st) h Q) ∧
  (∀ (x0 : Nat) (x1 : Int32) (x2 : Int32) (x3 : Int32) (y0 : Nat) (st : List Value) (h : AH) (Q : Option Value → AH → Prop) (ht : hT h y0 = 4), WP 27 46 [.ref x0, .int x1, .int x2, .int x3] (.ref y0 :: st) h Q ↔ WP 27 49 [.ref x0, .int x1, .int x2, .int x3] (.int (hI h y0 1) :: st) h Q) ∧
  (∀ (x0 : Nat) (x1 : Int32) (x2 : Int32) (x3 : Int32) (st : List Value) (h : AH) (Q : Option Value → AH → Prop), WP 27 49 [.ref x0, .int x1, .int x2, .int x3] (st) h Q ↔ WP 27 50 [.ref x0, .int x1, .int x2, .int x3] (.int (1) :: st) h Q) ∧
  (∀ (x0 : Nat) (x1 : Int32) (x2 : Int32) (x3 : Int32) (st : List Value) (h : AH) (Q : Option Value → AH → Prop), WP 27 50 [.ref x0, .int x1, .int x2, .int x3] (st) h Q ↔ WP 27 51 [.ref x0, .int x1, .int x2, .int x3] (.ref x0 :: st) h Q) ∧
  (∀ (x0 : Nat) (x1 : Int32) (x2 : Int32) (x3 : Int32) (y0 : Nat) (st : List Value) (h : AH) (Q : Option Value → AH → Prop) (ht : hT h y0 = 4), WP 27 51 [.ref x0, .int x1, .int x2, .int x3] (.ref y0 :: st) h Q ↔ WP 27 54 [.ref x0, .int x1, .int x2, .int x3] (.int (hI h y0 0) :: st) h Q) ∧
  (∀ (x0 : Nat) (x1 : Int32) (x2 : Int32) (x3 : Int32) (y0 : Int32) (y1 : Int32) (st : List Value) (h : AH) (Q : Option Value → AH → Prop), WP 27 54 [.ref x0, .int x1, .int x2, .int x3] (.int y0 :: .int y1 :: st) h Q ↔ WP 27 55 [.ref x0, .int x1, .int x2, .int x3] (.int (y1 <<< (y0 &&& 31)) :: st) h Q) ∧
  (∀ (x0 : Nat) (x1 : Int32) (x2 : Int32) (x3 : Int32) (y0 : Int32) (y1 : Int32) (st : List Value) (h : AH) (Q : Option Value → AH → Prop), WP 27 55 [.ref x0, .int x1, .int x2, .int x3] (.int y0 :: .int y1 :: st) h Q ↔ WP 27 56 [.ref x0, .int x1, .int x2, .int x3] (.int (y1 ||| y0) :: st) h Q) ∧
  (∀ (x0 : Nat) (x1 : Int32) (x2 : Int32) (x3 : Int32) (y0 : Int32) (y1 : Nat) (st : List Value) (h : AH) (Q : Option Value → AH → Prop) (ht : hT h y1 = 4), WP 27 56 [.ref x0, .int x1, .int x2, .int x3] (.int y0 :: .ref y1 :: st) h Q ↔ WP 27 59 [.ref x0, .int x1, .int x2, .int x3] (st) (sI h y1 1 y0) Q) ∧
  (∀ (x0 : Nat) (x1 : Int32) (x2 : Int32) (x3 : Int32) (st : List Value) (h : AH) (Q : Option Value → AH → Prop), WP 27 59 [.ref x0, .int x1, .int x2, .int x3] (st) h Q ↔ WP 27 60 [.ref x0, .int x1, .int x2, .int x3] (.ref x0 :: st) h Q) ∧
  (∀ (x0 : Nat) (x1 : Int32) (x2 : Int32) (x3 : Int32) (y0 : Nat) (st : List Value) (h : AH) (Q : Option Value → AH → Prop), WP 27 60 [.ref x0, .int x1, .int x2, .int x3] (.ref y0 :: st) h Q ↔ WP 27 61 [.ref x0, .int x1, .int x2, .int x3] (.ref y0 :: .ref y0 :: st) h Q) ∧
  (∀ (x0 : Nat) (x1 : Int32) (x2 : Int32) (x3 : Int32) (y0 : Nat) (st : List Value) (h : AH) (Q : Option Value → AH → Prop) (ht : hT h y0 = 4), WP 27 61 [.ref x0, .int x1, .int x2, .int x3] (.ref y0 :: st) h Q ↔ WP 27 64 [.ref x0, .int x1, .int x2, .int x3] (.int (hI h y0 0) :: st) h Q) ∧
  (∀ (x0 : Nat) (x1 : Int32) (x2 : Int32) (x3 : Int32) (st : List Value) (h : AH) (Q : Option Value → AH → Prop), WP 27 64 [.ref x0, .int x1, .int x2, .int x3] (st) h Q ↔ WP 27 65 [.ref x0, .int x1, .int x2, .int x3] (.int (1) :: st) h Q) ∧
  (∀ (x0 : Nat) (x1 : Int32) (x2 : Int32) (x3 : Int32) (y0 : Int32) (y1 : Int32) (st : List Value) (h : AH) (Q : Option Value → AH → Prop), WP 27 65 [.ref x0, .int x1, .int x2, .int x3] (.int y0 :: .int y1 :: st) h Q ↔ WP 27 66 [.ref x0, .int x1, .int x2, .int x3] (.int (y1 + y0) :: st) h Q) ∧
  (∀ (x0 : Nat) (x1 : Int32) (x2 : Int32) (x3 : Int32) (y0 : Int32) (y1 : Nat) (st : List Value) (h : AH) (Q : Option Value → AH → Prop) (ht : hT h y1 = 4), WP 27 66 [.ref x0, .int x1, .int x2, .int x3] (.int y0 :: .ref y1 :: st) h Q ↔ WP 27 69 [.ref x0, .int x1, .int x2, .int x3] (st) (sI h y1 0 y0) Q) :=
  ⟨fun _ _ _ _ _ _ _ => WP_s (show ct 27 0 = some (.aload_n 0, 0, []) by decide +kernel) rfl,
  fun _ _ _ _ _ _ _ _ ht => WH_gI (show ct 27 1 = some (.getfield 42, 1, [3, 0, 0, 132]) by decide +kernel) (by decide) ht,
  fun _ _ _ _ _ _ _ => WP_s (show ct 27 4 = some (.bipush 14, 0, []) by decide +kernel) rfl,
  fun _ _ _ _ _ _ _ _ _ => WI_lt (show ct 27 6 = some (.if_icmp .lt 4, 0, [10]) by decide +kernel) (by decide),
  fun _ _ _ _ _ _ => WR_v (show ct 27 9 = some (.return_, 2, [0]) by decide +kernel),
  fun _ _ _ _ _ _ _ => WP_s (show ct 27 10 = some (.aload_n 0, 0, []) by decide +kernel) rfl,
  fun _ _ _ _ _ _ _ _ ht => WH_gR (show ct 27 11 = some (.getfield 9, 1, [3, 4, 2, 156]) by decide +kernel) ht,
  fun _ _ _ _ _ _ _ => WP_s (show ct 27 14 = some (.aload_n 0, 0, []) by decide +kernel) rfl,
  fun _ _ _ _ _ _ _ _ ht => WH_gI (show ct 27 15 = some (.getfield 42, 1, [3, 0, 0, 132]) by decide +kernel) (by decide) ht,
  fun _ _ _ _ _ _ _ => WP_s (show ct 27 18 = some (.iload_n 1, 0, []) by decide +kernel) rfl,
  fun _ _ _ _ _ _ _ _ _ _ ht hi => WH_iast (show ct 27 19 = some (.iastore, 1, []) by decide +kernel) ht hi,
  fun _ _ _ _ _ _ _ => WP_s (show ct 27 20 = some (.aload_n 0, 0, []) by decide +kernel) rfl,
  fun _ _ _ _ _ _ _ _ ht => WH_gR (show ct 27 21 = some (.getfield 18, 1, [3, 6, 2, 161]) by decide +kernel) ht,
  fun _ _ _ _ _ _ _ => WP_s (show ct 27 24 = some (.aload_n 0, 0, []) by decide +kernel) rfl,
  fun _ _ _ _ _ _ _ _ ht => WH_gI (show ct 27 25 = some (.getfield 42, 1, [3, 0, 0, 132]) by decide +kernel) (by decide) ht,
  fun _ _ _ _ _ _ _ => WP_s (show ct 27 28 = some (.iload_n 2, 0, []) by decide +kernel) rfl,
  fun _ _ _ _ _ _ _ _ _ _ ht hi => WH_iast (show ct 27 29 = some (.iastore, 1, []) by decide +kernel) ht hi,
  fun _ _ _ _ _ _ _ => WP_s (show ct 27 30 = some (.aload_n 0, 0, []) by decide +kernel) rfl,
  fun _ _ _ _ _ _ _ _ ht => WH_gR (show ct 27 31 = some (.getfield 15, 1, [3, 5, 2, 157]) by decide +kernel) ht,
  fun _ _ _ _ _ _ _ => WP_s (show ct 27 34 = some (.aload_n 0, 0, []) by decide +kernel) rfl,
  fun _ _ _ _ _ _ _ _ ht => WH_gI (show ct 27 35 = some (.getfield 42, 1, [3, 0, 0, 132]) by decide +kernel) (by decide) ht,
  fun _ _ _ _ _ _ _ => WP_s (show ct 27 38 = some (.iload_n 3, 0, []) by decide +kernel) rfl,
  fun _ _ _ _ _ _ _ _ _ _ ht hi => WH_iast (show ct 27 39 = some (.iastore, 1, []) by decide +kernel) ht hi,
  fun _ _ _ _ _ _ _ => WP_s (show ct 27 40 = some (.iload_n 2, 0, []) by decide +kernel) rfl,
  fun _ _ _ _ _ _ _ _ => WZ_ne (show ct 27 41 = some (.ifCond .ne 18, 0, [59]) by decide +kernel) (by decide),
  fun _ _ _ _ _ _ _ => WP_s (show ct 27 44 = some (.aload_n 0, 0, []) by decide +kernel) rfl,
  fun _ _ _ _ _ _ _ _ => WP_s (show ct 27 45 = some (.dup, 0, []) by decide +kernel) rfl,
  fun _ _ _ _ _ _ _ _ ht => WH_gI (show ct 27 46 = some (.getfield 46, 1, [3, 1, 0, 140]) by decide +kernel) (by decide) ht,
  fun _ _ _ _ _ _ _ => WP_s (show ct 27 49 = some (.iconst 1, 0, []) by decide +kernel) rfl,
  fun _ _ _ _ _ _ _ => WP_s (show ct 27 50 = some (.aload_n 0, 0, []) by decide +kernel) rfl,
  fun _ _ _ _ _ _ _ _ ht => WH_gI (show ct 27 51 = some (.getfield 42, 1, [3, 0, 0, 132]) by decide +kernel) (by decide) ht,
  fun _ _ _ _ _ _ _ _ _ => WP_s (show ct 27 54 = some (.ishl, 0, []) by decide +kernel) rfl,
  fun _ _ _ _ _ _ _ _ _ => WP_s (show ct 27 55 = some (.ior, 0, []) by decide +kernel) rfl,
  fun _ _ _ _ _ _ _ _ _ ht => WH_pI (show ct 27 56 = some (.putfield 46, 1, [3, 1, 0, 0, 140]) by decide +kernel) ht,
  fun _ _ _ _ _ _ _ => WP_s (show ct 27 59 = some (.aload_n 0, 0, []) by decide +kernel) rfl,
  fun _ _ _ _ _ _ _ _ => WP_s (show ct 27 60 = some (.dup, 0, []) by decide +kernel) rfl,
  fun _ _ _ _ _ _ _ _ ht => WH_gI (show ct 27 61 = some (.getfield 42, 1, [3, 0, 0, 132]) by decide +kernel) (by decide) ht,
  fun _ _ _ _ _ _ _ => WP_s (show ct 27 64 = some (.iconst 1, 0, []) by decide +kernel) rfl,
  fun _ _ _ _ _ _ _ _ _ => WP_s (show ct 27 65 = some (.iadd, 0, []) by decide +kernel) rfl,
  fun _ _ _ _ _ _ _ _ _ ht => WH_pI (show ct 27 66 = some (.putfield 42, 1, [3, 0, 0, 0, 132]) by decide +kernel) ht⟩
theorem w27_b : ∀ (x0 : Nat) (x1 : Int32) (x2 : Int32) (x3 : Int32) (h : AH) (Q : Option Value → AH → Prop), WP 27 69 [.ref x0, .int x1, .int x2, .int x3] ([]) h Q ↔ Q none h := fun _ _ _ _ _ _ => WR_v (show ct 27 69 = some (.return_, 2, [0]) by decide +kernel)
/-- all of 27 -/
def w27_n : Nat := 2
/-! 28: FewBowls$Net.finish()Z; loop heads [7] -/
theorem w28_7 : ∀ (x0 : Nat) (x1 : Int32) (st : List Value) (h : AH) (Q : Option Value → AH → Prop), WP 28 7 [.ref x0, .int x1] (st) h Q ↔ WP 28 8 [.ref x0, .int x1] (.int x1 :: st) h Q := fun _ _ _ _ _ => WP_s (show ct 28 7 = some (.iload_n 1, 0, []) by decide +kernel) rfl
set_option maxRecDepth 10000 in
theorem w28_a : (∀ (x0 : Nat) (st : List Value) (h : AH) (Q : Option Value → AH → Prop), WP 28 0 [.ref x0, .retAddr 0] (st) h Q ↔ WP 28 1 [.ref x0, .retAddr 0] (.ref x0 :: st) h Q) ∧
  (∀ (x0 : Nat) (st : List Value) (h : AH) (Q : Option Value → AH → Prop), WP 28 1 [.ref x0, .retAddr 0] (st) h Q ↔ WP 28 2 [.ref x0, .retAddr 0] (.int (0) :: st) h Q) ∧
  (∀ (x0 : Nat) (y0 : Int32) (y1 : Nat) (st : List Value) (h : AH) (Q : Option Value → AH → Prop) (ht : hT h y1 = 4), WP 28 2 [.ref x0, .retAddr 0] (.int y0 :: .ref y1 :: st) h Q ↔ WP 28 5 [.ref x0, .retAddr 0] (st) (sI h y1 3 y0) Q) ∧
  (∀ (x0 : Nat) (st : List Value) (h : AH) (Q : Option Value → AH → Prop), WP 28 5 [.ref x0, .retAddr 0] (st) h Q ↔ WP 28 6 [.ref x0, .retAddr 0] (.int (0) :: st) h Q) ∧
  (∀ (x0 : Nat) (y0 : Int32) (st : List Value) (h : AH) (Q : Option Value → AH → Prop), WP 28 6 [.ref x0, .retAddr 0] (.int y0 :: st) h Q ↔ WP 28 7 [.ref x0, .int y0] (st) h Q) ∧
  (∀ (x0 : Nat) (x1 : Int32) (st : List Value) (h : AH) (Q : Option Value → AH → Prop), WP 28 8 [.ref x0, .int x1] (st) h Q ↔ WP 28 9 [.ref x0, .int x1] (.ref x0 :: st) h Q) ∧
  (∀ (x0 : Nat) (x1 : Int32) (y0 : Nat) (st : List Value) (h : AH) (Q : Option Value → AH → Prop) (ht : hT h y0 = 4), WP 28 9 [.ref x0, .int x1] (.ref y0 :: st) h Q ↔ WP 28 12 [.ref x0, .int x1] (.int (hI h y0 0) :: st) h Q) ∧
  (∀ (x0 : Nat) (x1 : Int32) (y0 : Int32) (y1 : Int32) (st : List Value) (h : AH) (Q : Option Value → AH → Prop), WP 28 12 [.ref x0, .int x1] (.int y0 :: .int y1 :: st) h Q ↔ ((y0 ≤ y1 → WP 28 95 [.ref x0, .int x1] (st) h Q) ∧ (¬ y0 ≤ y1 → WP 28 15 [.ref x0, .int x1] (st) h Q))) ∧
  (∀ (x0 : Nat) (x1 : Int32) (st : List Value) (h : AH) (Q : Option Value → AH → Prop), WP 28 15 [.ref x0, .int x1] (st) h Q ↔ WP 28 16 [.ref x0, .int x1] (.ref x0 :: st) h Q) ∧
  (∀ (x0 : Nat) (x1 : Int32) (st : List Value) (h : AH) (Q : Option Value → AH → Prop), WP 28 16 [.ref x0, .int x1] (st) h Q ↔ WP 28 17 [.ref x0, .int x1] (.int x1 :: st) h Q) ∧
  (∀ (x0 : Nat) (x1 : Int32) (y1 : Nat) (y0 : Int32) (h : AH) (Q : Option Value → AH → Prop) (ht : hT h y1 = 4), WP 28 17 [.ref x0, .int x1] ([.int y0, .ref y1]) h Q ↔ WPM 29 [.ref y1, .int y0] h (fun r h' => WP 28 20 [.ref x0, .int x1] (r.toList ++ []) h' Q)) ∧
  (∀ (x0 : Nat) (x1 : Int32) (st : List Value) (h : AH) (Q : Option Value → AH → Prop), WP 28 20 [.ref x0, .int x1] (st) h Q ↔ WP 28 21 [.ref x0, .int x1] (.ref x0 :: st) h Q) ∧
  (∀ (x0 : Nat) (x1 : Int32) (y0 : Nat) (st : List Value) (h : AH) (Q : Option Value → AH → Prop) (ht : hT h y0 = 4), WP 28 21 [.ref x0, .int x1] (.ref y0 :: st) h Q ↔ WP 28 24 [.ref x0, .int x1] (.ref (hR h y0 9) :: st) h Q) ∧
  (∀ (x0 : Nat) (x1 : Int32) (st : List Value) (h : AH) (Q : Option Value → AH → Prop), WP 28 24 [.ref x0, .int x1] (st) h Q ↔ WP 28 25 [.ref x0, .int x1] (.int x1 :: st) h Q) ∧
  (∀ (x0 : Nat) (x1 : Int32) (st : List Value) (h : AH) (Q : Option Value → AH → Prop), WP 28 25 [.ref x0, .int x1] (st) h Q ↔ WP 28 26 [.ref x0, .int x1] (.ref x0 :: st) h Q) ∧
  (∀ (x0 : Nat) (x1 : Int32) (st : List Value) (h : AH) (Q : Option Value → AH → Prop), WP 28 26 [.ref x0, .int x1] (st) h Q ↔ WP 28 27 [.ref x0, .int x1] (.int x1 :: st) h Q) ∧
  (∀ (x0 : Nat) (x1 : Int32) (st : List Value) (h : AH) (Q : Option Value → AH → Prop), WP 28 27 [.ref x0, .int x1] (st) h Q ↔ WP 28 28 [.ref x0, .int x1] (.ref x0 :: st) h Q) ∧
  (∀ (x0 : Nat) (x1 : Int32) (y0 : Nat) (st : List Value) (h : AH) (Q : Option Value → AH → Prop) (ht : hT h y0 = 4), WP 28 28 [.ref x0, .int x1] (.ref y0 :: st) h Q ↔ WP 28 31 [.ref x0, .int x1] (.ref (hR h y0 9) :: st) h Q) ∧
  (∀ (x0 : Nat) (x1 : Int32) (st : List Value) (h : AH) (Q : Option Value → AH → Prop), WP 28 31 [.ref x0, .int x1] (st) h Q ↔ WP 28 32 [.ref x0, .int x1] (.ref x0 :: st) h Q) ∧
  (∀ (x0 : Nat) (x1 : Int32) (y0 : Nat) (st : List Value) (h : AH) (Q : Option Value → AH → Prop) (ht : hT h y0 = 4), WP 28 32 [.ref x0, .int x1] (.ref y0 :: st) h Q ↔ WP 28 35 [.ref x0, .int x1] (.ref (hR h y0 6) :: st) h Q) ∧
  (∀ (x0 : Nat) (x1 : Int32) (st : List Value) (h : AH) (Q : Option Value → AH → Prop), WP 28 35 [.ref x0, .int x1] (st) h Q ↔ WP 28 36 [.ref x0, .int x1] (.int x1 :: st) h Q) ∧
  (∀ (x0 : Nat) (x1 : Int32) (y0 : Int32) (y1 : Nat) (st : List Value) (h : AH) (Q : Option Value → AH → Prop) (ht : hT h y1 = 100 ∨ hT h y1 = 110) (hi : inb y0 (hL h y1) = true), WP 28 36 [.ref x0, .int x1] (.int y0 :: .ref y1 :: st) h Q ↔ WP 28 37 [.ref x0, .int x1] (.int (hI h y1 y0.toNatClampNeg) :: st) h Q) ∧
  (∀ (x0 : Nat) (x1 : Int32) (y5 : Nat) (y4 : Int32) (y3 : Nat) (y2 : Int32) (y1 : Nat) (y0 : Int32) (h : AH) (Q : Option Value → AH → Prop), WP 28 37 [.ref x0, .int x1] ([.int y0, .ref y1, .int y2, .ref y3, .int y4, .ref y5]) h Q ↔ WPM 218 [.int y0] h (fun r h' => WP 28 40 [.ref x0, .int x1] (r.toList ++ [.ref y1, .int y2, .ref y3, .int y4, .ref y5]) h' Q)) ∧
  (∀ (x0 : Nat) (x1 : Int32) (st : List Value) (h : AH) (Q : Option Value → AH → Prop), WP 28 40 [.ref x0, .int x1] (st) h Q ↔ WP 28 41 [.ref x0, .int x1] (.int (1) :: st) h Q) ∧
  (∀ (x0 : Nat) (x1 : Int32) (y0 : Int32) (y1 : Int32) (st : List Value) (h : AH) (Q : Option Value → AH → Prop), WP 28 41 [.ref x0, .int x1] (.int y0 :: .int y1 :: st) h Q ↔ WP 28 42 [.ref x0, .int x1] (.int (y1 + y0) :: st) h Q) ∧
  (∀ (x0 : Nat) (x1 : Int32) (y5 : Nat) (y4 : Int32) (y3 : Nat) (y2 : Int32) (y1 : Nat) (y0 : Int32) (h : AH) (Q : Option Value → AH → Prop) (ht : hT h y3 = 4), WP 28 42 [.ref x0, .int x1] ([.int y0, .ref y1, .int y2, .ref y3, .int y4, .ref y5]) h Q ↔ WPM 30 [.ref y3, .int y2, .ref y1, .int y0] h (fun r h' => WP 28 45 [.ref x0, .int x1] (r.toList ++ [.int y4, .ref y5]) h' Q)) ∧
  (∀ (x0 : Nat) (x1 : Int32) (y0 : Int32) (y1 : Int32) (y2 : Nat) (st : List Value) (h : AH) (Q : Option Value → AH → Prop) (ht : hT h y2 = 100) (hi : inb y1 (hL h y2) = true), WP 28 45 [.ref x0, .int x1] (.int y0 :: .int y1 :: .ref y2 :: st) h Q ↔ WP 28 46 [.ref x0, .int x1] (st) (sI h y2 y1.toNatClampNeg y0) Q) ∧
  (∀ (x0 : Nat) (x1 : Int32) (st : List Value) (h : AH) (Q : Option Value → AH → Prop), WP 28 46 [.ref x0, .int x1] (st) h Q ↔ WP 28 47 [.ref x0, .int x1] (.ref x0 :: st) h Q) ∧
  (∀ (x0 : Nat) (x1 : Int32) (y0 : Nat) (st : List Value) (h : AH) (Q : Option Value → AH → Prop) (ht : hT h y0 = 4), WP 28 47 [.ref x0, .int x1] (.ref y0 :: st) h Q ↔ WP 28 50 [.ref x0, .int x1] (.ref (hR h y0 10) :: st) h Q) ∧
  (∀ (x0 : Nat) (x1 : Int32) (st : List Value) (h : AH) (Q : Option Value → AH → Prop), WP 28 50 [.ref x0, .int x1] (st) h Q ↔ WP 28 51 [.ref x0, .int x1] (.int x1 :: st) h Q) ∧
  (∀ (x0 : Nat) (x1 : Int32) (st : List Value) (h : AH) (Q : Option Value → AH → Prop), WP 28 51 [.ref x0, .int x1] (st) h Q ↔ WP 28 52 [.ref x0, .int x1] (.ref x0 :: st) h Q) ∧
  (∀ (x0 : Nat) (x1 : Int32) (st : List Value) (h : AH) (Q : Option Value → AH → Prop), WP 28 52 [.ref x0, .int x1] (st) h Q ↔ WP 28 53 [.ref x0, .int x1] (.int x1 :: st) h Q) ∧
  (∀ (x0 : Nat) (x1 : Int32) (st : List Value) (h : AH) (Q : Option Value → AH → Prop), WP 28 53 [.ref x0, .int x1] (st) h Q ↔ WP 28 54 [.ref x0, .int x1] (.ref x0 :: st) h Q) ∧
  (∀ (x0 : Nat) (x1 : Int32) (y0 : Nat) (st : List Value) (h : AH) (Q : Option Value → AH → Prop) (ht : hT h y0 = 4), WP 28 54 [.ref x0, .int x1] (.ref y0 :: st) h Q ↔ WP 28 57 [.ref x0, .int x1] (.ref (hR h y0 10) :: st) h Q) ∧
  (∀ (x0 : Nat) (x1 : Int32) (st : List Value) (h : AH) (Q : Option Value → AH → Prop), WP 28 57 [.ref x0, .int x1] (st) h Q ↔ WP 28 58 [.ref x0, .int x1] (.int (1) :: st) h Q) ∧
  (∀ (x0 : Nat) (x1 : Int32) (y5 : Nat) (y4 : Int32) (y3 : Nat) (y2 : Int32) (y1 : Nat) (y0 : Int32) (h : AH) (Q : Option Value → AH → Prop) (ht : hT h y3 = 4), WP 28 58 [.ref x0, .int x1] ([.int y0, .ref y1, .int y2, .ref y3, .int y4, .ref y5]) h Q ↔ WPM 30 [.ref y3, .int y2, .ref y1, .int y0] h (fun r h' => WP 28 61 [.ref x0, .int x1] (r.toList ++ [.int y4, .ref y5]) h' Q)) ∧
  (∀ (x0 : Nat) (x1 : Int32) (y0 : Int32) (y1 : Int32) (y2 : Nat) (st : List Value) (h : AH) (Q : Option Value → AH → Prop) (ht : hT h y2 = 100) (hi : inb y1 (hL h y2) = true), WP 28 61 [.ref x0, .int x1] (.int y0 :: .int y1 :: .ref y2 :: st) h Q ↔ WP 28 62 [.ref x0, .int x1] (st) (sI h y2 y1.toNatClampNeg y0) Q) ∧
  (∀ (x0 : Nat) (x1 : Int32) (st : List Value) (h : AH) (Q : Option Value → AH → Prop), WP 28 62 [.ref x0, .int x1] (st) h Q ↔ WP 28 63 [.ref x0, .int x1] (.ref x0 :: st) h Q) ∧
  (∀ (x0 : Nat) (x1 : Int32) (y0 : Nat) (st : List Value) (h : AH) (Q : Option Value → AH → Prop) (ht : hT h y0 = 4), WP 28 63 [.ref x0, .int x1] (.ref y0 :: st) h Q ↔ WP 28 66 [.ref x0, .int x1] (.int (hI h y0 2) :: st) h Q) ∧
  (∀ (x0 : Nat) (x1 : Int32) (st : List Value) (h : AH) (Q : Option Value → AH → Prop), WP 28 66 [.ref x0, .int x1] (st) h Q ↔ WP 28 67 [.ref x0, .int x1] (.int x1 :: st) h Q) :=
  ⟨fun _ _ _ _ => WP_s (show ct 28 0 = some (.aload_n 0, 0, []) by decide +kernel) rfl,
  fun _ _ _ _ => WP_s (show ct 28 1 = some (.iconst 0, 0, []) by decide +kernel) rfl,
  fun _ _ _ _ _ _ ht => WH_pI (show ct 28 2 = some (.putfield 52, 1, [3, 3, 0, 0, 153]) by decide +kernel) ht,
  fun _ _ _ _ => WP_s (show ct 28 5 = some (.iconst 0, 0, []) by decide +kernel) rfl,
  fun _ _ _ _ _ => WP_s (show ct 28 6 = some (.istore_n 1, 0, []) by decide +kernel) rfl,
  fun _ _ _ _ _ => WP_s (show ct 28 8 = some (.aload_n 0, 0, []) by decide +kernel) rfl,
  fun _ _ _ _ _ _ ht => WH_gI (show ct 28 9 = some (.getfield 42, 1, [3, 0, 0, 132]) by decide +kernel) (by decide) ht,
  fun _ _ _ _ _ _ _ => WI_ge (show ct 28 12 = some (.if_icmp .ge 83, 0, [95]) by decide +kernel) (by decide),
  fun _ _ _ _ _ => WP_s (show ct 28 15 = some (.aload_n 0, 0, []) by decide +kernel) rfl,
  fun _ _ _ _ _ => WP_s (show ct 28 16 = some (.iload_n 1, 0, []) by decide +kernel) rfl,
  fun _ _ _ _ _ _ ht => WC_1 (show ct 28 17 = some (.invokevirtual 55, 3, [29, 2, 1, 4, 0, 688, 690, 8]) by decide +kernel) (Nat.le_of_ble_eq_true rfl) (Nat.le_of_ble_eq_true rfl) rfl rfl ht,
  fun _ _ _ _ _ => WP_s (show ct 28 20 = some (.aload_n 0, 0, []) by decide +kernel) rfl,
  fun _ _ _ _ _ _ ht => WH_gR (show ct 28 21 = some (.getfield 27, 1, [3, 9, 2, 170]) by decide +kernel) ht,
  fun _ _ _ _ _ => WP_s (show ct 28 24 = some (.iload_n 1, 0, []) by decide +kernel) rfl,
  fun _ _ _ _ _ => WP_s (show ct 28 25 = some (.aload_n 0, 0, []) by decide +kernel) rfl,
  fun _ _ _ _ _ => WP_s (show ct 28 26 = some (.iload_n 1, 0, []) by decide +kernel) rfl,
  fun _ _ _ _ _ => WP_s (show ct 28 27 = some (.aload_n 0, 0, []) by decide +kernel) rfl,
  fun _ _ _ _ _ _ ht => WH_gR (show ct 28 28 = some (.getfield 27, 1, [3, 9, 2, 170]) by decide +kernel) ht,
  fun _ _ _ _ _ => WP_s (show ct 28 31 = some (.aload_n 0, 0, []) by decide +kernel) rfl,
  fun _ _ _ _ _ _ ht => WH_gR (show ct 28 32 = some (.getfield 18, 1, [3, 6, 2, 161]) by decide +kernel) ht,
  fun _ _ _ _ _ => WP_s (show ct 28 35 = some (.iload_n 1, 0, []) by decide +kernel) rfl,
  fun _ _ _ _ _ _ _ ht hi => WH_iald (show ct 28 36 = some (.iaload, 1, []) by decide +kernel) ht hi,
  fun _ _ _ _ _ _ _ _ _ _ => WC_0 (show ct 28 37 = some (.invokestatic 59, 3, [218, 1, 0, 0, 0, 698, 699, 0]) by decide +kernel) (Nat.le_of_ble_eq_true rfl) (Nat.le_of_ble_eq_true rfl) rfl rfl,
  fun _ _ _ _ _ => WP_s (show ct 28 40 = some (.iconst 1, 0, []) by decide +kernel) rfl,
  fun _ _ _ _ _ _ _ => WP_s (show ct 28 41 = some (.iadd, 0, []) by decide +kernel) rfl,
  fun _ _ _ _ _ _ _ _ _ _ ht => WC_1 (show ct 28 42 = some (.invokevirtual 65, 3, [30, 4, 1, 4, 0, 704, 706, 9]) by decide +kernel) (Nat.le_of_ble_eq_true rfl) (Nat.le_of_ble_eq_true rfl) rfl rfl ht,
  fun _ _ _ _ _ _ _ _ ht hi => WH_iast (show ct 28 45 = some (.iastore, 1, []) by decide +kernel) ht hi,
  fun _ _ _ _ _ => WP_s (show ct 28 46 = some (.aload_n 0, 0, []) by decide +kernel) rfl,
  fun _ _ _ _ _ _ ht => WH_gR (show ct 28 47 = some (.getfield 30, 1, [3, 10, 2, 172]) by decide +kernel) ht,
  fun _ _ _ _ _ => WP_s (show ct 28 50 = some (.iload_n 1, 0, []) by decide +kernel) rfl,
  fun _ _ _ _ _ => WP_s (show ct 28 51 = some (.aload_n 0, 0, []) by decide +kernel) rfl,
  fun _ _ _ _ _ => WP_s (show ct 28 52 = some (.iload_n 1, 0, []) by decide +kernel) rfl,
  fun _ _ _ _ _ => WP_s (show ct 28 53 = some (.aload_n 0, 0, []) by decide +kernel) rfl,
  fun _ _ _ _ _ _ ht => WH_gR (show ct 28 54 = some (.getfield 30, 1, [3, 10, 2, 172]) by decide +kernel) ht,
  fun _ _ _ _ _ => WP_s (show ct 28 57 = some (.iconst 1, 0, []) by decide +kernel) rfl,
  fun _ _ _ _ _ _ _ _ _ _ ht => WC_1 (show ct 28 58 = some (.invokevirtual 65, 3, [30, 4, 1, 4, 0, 704, 706, 9]) by decide +kernel) (Nat.le_of_ble_eq_true rfl) (Nat.le_of_ble_eq_true rfl) rfl rfl ht,
  fun _ _ _ _ _ _ _ _ ht hi => WH_iast (show ct 28 61 = some (.iastore, 1, []) by decide +kernel) ht hi,
  fun _ _ _ _ _ => WP_s (show ct 28 62 = some (.aload_n 0, 0, []) by decide +kernel) rfl,
  fun _ _ _ _ _ _ ht => WH_gI (show ct 28 63 = some (.getfield 49, 1, [3, 2, 0, 144]) by decide +kernel) (by decide) ht,
  fun _ _ _ _ _ => WP_s (show ct 28 66 = some (.iload_n 1, 0, []) by decide +kernel) rfl⟩
set_option maxRecDepth 10000 in
theorem w28_b : (∀ (x0 : Nat) (x1 : Int32) (y1 : Int32) (y0 : Int32) (h : AH) (Q : Option Value → AH → Prop), WP 28 67 [.ref x0, .int x1] ([.int y0, .int y1]) h Q ↔ WPM 140 [.int y1, .int y0] h (fun r h' => WP 28 70 [.ref x0, .int x1] (r.toList ++ []) h' Q)) ∧
  (∀ (x0 : Nat) (x1 : Int32) (st : List Value) (h : AH) (Q : Option Value → AH → Prop), WP 28 70 [.ref x0, .int x1] (st) h Q ↔ WP 28 71 [.ref x0, .int x1] (.int (1) :: st) h Q) ∧
  (∀ (x0 : Nat) (x1 : Int32) (y0 : Int32) (y1 : Int32) (st : List Value) (h : AH) (Q : Option Value → AH → Prop), WP 28 71 [.ref x0, .int x1] (.int y0 :: .int y1 :: st) h Q ↔ ((¬ y1 = y0 → WP 28 89 [.ref x0, .int x1] (st) h Q) ∧ (y1 = y0 → WP 28 74 [.ref x0, .int x1] (st) h Q))) ∧
  (∀ (x0 : Nat) (x1 : Int32) (st : List Value) (h : AH) (Q : Option Value → AH → Prop), WP 28 74 [.ref x0, .int x1] (st) h Q ↔ WP 28 75 [.ref x0, .int x1] (.ref x0 :: st) h Q) ∧
  (∀ (x0 : Nat) (x1 : Int32) (y0 : Nat) (st : List Value) (h : AH) (Q : Option Value → AH → Prop), WP 28 75 [.ref x0, .int x1] (.ref y0 :: st) h Q ↔ WP 28 76 [.ref x0, .int x1] (.ref y0 :: .ref y0 :: st) h Q) ∧
  (∀ (x0 : Nat) (x1 : Int32) (y0 : Nat) (st : List Value) (h : AH) (Q : Option Value → AH → Prop) (ht : hT h y0 = 4), WP 28 76 [.ref x0, .int x1] (.ref y0 :: st) h Q ↔ WP 28 79 [.ref x0, .int x1] (.int (hI h y0 3) :: st) h Q) ∧
  (∀ (x0 : Nat) (x1 : Int32) (st : List Value) (h : AH) (Q : Option Value → AH → Prop), WP 28 79 [.ref x0, .int x1] (st) h Q ↔ WP 28 80 [.ref x0, .int x1] (.ref x0 :: st) h Q) ∧
  (∀ (x0 : Nat) (x1 : Int32) (y0 : Nat) (st : List Value) (h : AH) (Q : Option Value → AH → Prop) (ht : hT h y0 = 4), WP 28 80 [.ref x0, .int x1] (.ref y0 :: st) h Q ↔ WP 28 83 [.ref x0, .int x1] (.ref (hR h y0 7) :: st) h Q) ∧
  (∀ (x0 : Nat) (x1 : Int32) (st : List Value) (h : AH) (Q : Option Value → AH → Prop), WP 28 83 [.ref x0, .int x1] (st) h Q ↔ WP 28 84 [.ref x0, .int x1] (.int x1 :: st) h Q) ∧
  (∀ (x0 : Nat) (x1 : Int32) (y0 : Int32) (y1 : Nat) (st : List Value) (h : AH) (Q : Option Value → AH → Prop) (ht : hT h y1 = 100 ∨ hT h y1 = 110) (hi : inb y0 (hL h y1) = true), WP 28 84 [.ref x0, .int x1] (.int y0 :: .ref y1 :: st) h Q ↔ WP 28 85 [.ref x0, .int x1] (.int (hI h y1 y0.toNatClampNeg) :: st) h Q) ∧
  (∀ (x0 : Nat) (x1 : Int32) (y0 : Int32) (y1 : Int32) (st : List Value) (h : AH) (Q : Option Value → AH → Prop), WP 28 85 [.ref x0, .int x1] (.int y0 :: .int y1 :: st) h Q ↔ WP 28 86 [.ref x0, .int x1] (.int (y1 ||| y0) :: st) h Q) ∧
  (∀ (x0 : Nat) (x1 : Int32) (y0 : Int32) (y1 : Nat) (st : List Value) (h : AH) (Q : Option Value → AH → Prop) (ht : hT h y1 = 4), WP 28 86 [.ref x0, .int x1] (.int y0 :: .ref y1 :: st) h Q ↔ WP 28 89 [.ref x0, .int x1] (st) (sI h y1 3 y0) Q) ∧
  (∀ (x0 : Nat) (x1 : Int32) (st : List Value) (h : AH) (Q : Option Value → AH → Prop), WP 28 89 [.ref x0, .int x1] (st) h Q ↔ WP 28 92 [.ref x0, .int (x1 + (1))] (st) h Q) ∧
  (∀ (x0 : Nat) (x1 : Int32) (st : List Value) (h : AH) (Q : Option Value → AH → Prop), WP 28 92 [.ref x0, .int x1] (st) h Q ↔ WP 28 7 [.ref x0, .int x1] (st) h Q) ∧
  (∀ (x0 : Nat) (x1 : Int32) (st : List Value) (h : AH) (Q : Option Value → AH → Prop), WP 28 95 [.ref x0, .int x1] (st) h Q ↔ WP 28 96 [.ref x0, .int x1] (.ref x0 :: st) h Q) ∧
  (∀ (x0 : Nat) (x1 : Int32) (y0 : Nat) (h : AH) (Q : Option Value → AH → Prop) (ht : hT h y0 = 4), WP 28 96 [.ref x0, .int x1] ([.ref y0]) h Q ↔ WPM 32 [.ref y0] h (fun r h' => WP 28 99 [.ref x0, .int x1] (r.toList ++ []) h' Q)) ∧
  (∀ (x0 : Nat) (x1 : Int32) (st : List Value) (h : AH) (Q : Option Value → AH → Prop), WP 28 99 [.ref x0, .int x1] (st) h Q ↔ WP 28 100 [.ref x0, .int x1] (.int (1) :: st) h Q) ∧
  (∀ (x0 : Nat) (x1 : Int32) (y0 : Int32) (h : AH) (Q : Option Value → AH → Prop) (hz : y0 = 0 ∨ y0 = 1), WP 28 100 [.ref x0, .int x1] ([.int y0]) h Q ↔ Q (some (.int y0)) h) :=
  ⟨fun _ _ _ _ _ _ => WC_0 (show ct 28 67 = some (.invokestatic 69, 3, [140, 2, 0, 0, 1, 692, 693, 0]) by decide +kernel) (Nat.le_of_ble_eq_true rfl) (Nat.le_of_ble_eq_true rfl) rfl rfl,
  fun _ _ _ _ _ => WP_s (show ct 28 70 = some (.iconst 1, 0, []) by decide +kernel) rfl,
  fun _ _ _ _ _ _ _ => WI_ne (show ct 28 71 = some (.if_icmp .ne 18, 0, [89]) by decide +kernel) (by decide),
  fun _ _ _ _ _ => WP_s (show ct 28 74 = some (.aload_n 0, 0, []) by decide +kernel) rfl,
  fun _ _ _ _ _ _ => WP_s (show ct 28 75 = some (.dup, 0, []) by decide +kernel) rfl,
  fun _ _ _ _ _ _ ht => WH_gI (show ct 28 76 = some (.getfield 52, 1, [3, 3, 0, 153]) by decide +kernel) (by decide) ht,
  fun _ _ _ _ _ => WP_s (show ct 28 79 = some (.aload_n 0, 0, []) by decide +kernel) rfl,
  fun _ _ _ _ _ _ ht => WH_gR (show ct 28 80 = some (.getfield 21, 1, [3, 7, 2, 166]) by decide +kernel) ht,
  fun _ _ _ _ _ => WP_s (show ct 28 83 = some (.iload_n 1, 0, []) by decide +kernel) rfl,
  fun _ _ _ _ _ _ _ ht hi => WH_iald (show ct 28 84 = some (.iaload, 1, []) by decide +kernel) ht hi,
  fun _ _ _ _ _ _ _ => WP_s (show ct 28 85 = some (.ior, 0, []) by decide +kernel) rfl,
  fun _ _ _ _ _ _ _ ht => WH_pI (show ct 28 86 = some (.putfield 52, 1, [3, 3, 0, 0, 153]) by decide +kernel) ht,
  fun _ _ _ _ _ => WP_s (show ct 28 89 = some (.iinc 1 1, 0, []) by decide +kernel) rfl,
  fun _ _ _ _ _ => WP_s (show ct 28 92 = some (.goto (-85), 0, [7]) by decide +kernel) rfl,
  fun _ _ _ _ _ => WP_s (show ct 28 95 = some (.aload_n 0, 0, []) by decide +kernel) rfl,
  fun _ _ _ _ _ ht => WC_1 (show ct 28 96 = some (.invokevirtual 73, 3, [32, 1, 1, 4, 0, 712, 714, 11]) by decide +kernel) (Nat.le_of_ble_eq_true rfl) (Nat.le_of_ble_eq_true rfl) rfl rfl ht,
  fun _ _ _ _ _ => WP_s (show ct 28 99 = some (.iconst 1, 0, []) by decide +kernel) rfl,
  fun _ _ _ _ _ hz => WR_z (show ct 28 100 = some (.ireturn, 2, [1]) by decide +kernel) hz⟩
/-- all of 28 -/
def w28_n : Nat := 2
/-! 29: FewBowls$Net.growTree(I)V; loop heads [25] -/
theorem w29_25 : ∀ (x0 : Nat) (x1 : Int32) (x2 : Int32) (st : List Value) (h : AH) (Q : Option Value → AH → Prop), WP 29 25 [.ref x0, .int x1, .int x2] (st) h Q ↔ WP 29 26 [.ref x0, .int x1, .int x2] (.int x2 :: st) h Q := fun _ _ _ _ _ _ => WP_s (show ct 29 25 = some (.iload_n 2, 0, []) by decide +kernel) rfl
set_option maxRecDepth 10000 in
theorem w29_a : (∀ (x0 : Nat) (x1 : Int32) (st : List Value) (h : AH) (Q : Option Value → AH → Prop), WP 29 0 [.ref x0, .int x1, .retAddr 0] (st) h Q ↔ WP 29 1 [.ref x0, .int x1, .retAddr 0] (.ref x0 :: st) h Q) ∧
  (∀ (x0 : Nat) (x1 : Int32) (y0 : Nat) (st : List Value) (h : AH) (Q : Option Value → AH → Prop) (ht : hT h y0 = 4), WP 29 1 [.ref x0, .int x1, .retAddr 0] (.ref y0 :: st) h Q ↔ WP 29 4 [.ref x0, .int x1, .retAddr 0] (.ref (hR h y0 7) :: st) h Q) ∧
  (∀ (x0 : Nat) (x1 : Int32) (st : List Value) (h : AH) (Q : Option Value → AH → Prop), WP 29 4 [.ref x0, .int x1, .retAddr 0] (st) h Q ↔ WP 29 5 [.ref x0, .int x1, .retAddr 0] (.int x1 :: st) h Q) ∧
  (∀ (x0 : Nat) (x1 : Int32) (st : List Value) (h : AH) (Q : Option Value → AH → Prop), WP 29 5 [.ref x0, .int x1, .retAddr 0] (st) h Q ↔ WP 29 6 [.ref x0, .int x1, .retAddr 0] (.int (1) :: st) h Q) ∧
  (∀ (x0 : Nat) (x1 : Int32) (st : List Value) (h : AH) (Q : Option Value → AH → Prop), WP 29 6 [.ref x0, .int x1, .retAddr 0] (st) h Q ↔ WP 29 7 [.ref x0, .int x1, .retAddr 0] (.int x1 :: st) h Q) ∧
  (∀ (x0 : Nat) (x1 : Int32) (y0 : Int32) (y1 : Int32) (st : List Value) (h : AH) (Q : Option Value → AH → Prop), WP 29 7 [.ref x0, .int x1, .retAddr 0] (.int y0 :: .int y1 :: st) h Q ↔ WP 29 8 [.ref x0, .int x1, .retAddr 0] (.int (y1 <<< (y0 &&& 31)) :: st) h Q) ∧
  (∀ (x0 : Nat) (x1 : Int32) (y0 : Int32) (y1 : Int32) (y2 : Nat) (st : List Value) (h : AH) (Q : Option Value → AH → Prop) (ht : hT h y2 = 100) (hi : inb y1 (hL h y2) = true), WP 29 8 [.ref x0, .int x1, .retAddr 0] (.int y0 :: .int y1 :: .ref y2 :: st) h Q ↔ WP 29 9 [.ref x0, .int x1, .retAddr 0] (st) (sI h y2 y1.toNatClampNeg y0) Q) ∧
  (∀ (x0 : Nat) (x1 : Int32) (st : List Value) (h : AH) (Q : Option Value → AH → Prop), WP 29 9 [.ref x0, .int x1, .retAddr 0] (st) h Q ↔ WP 29 10 [.ref x0, .int x1, .retAddr 0] (.ref x0 :: st) h Q) ∧
  (∀ (x0 : Nat) (x1 : Int32) (y0 : Nat) (st : List Value) (h : AH) (Q : Option Value → AH → Prop) (ht : hT h y0 = 4), WP 29 10 [.ref x0, .int x1, .retAddr 0] (.ref y0 :: st) h Q ↔ WP 29 13 [.ref x0, .int x1, .retAddr 0] (.ref (hR h y0 11) :: st) h Q) ∧
  (∀ (x0 : Nat) (x1 : Int32) (st : List Value) (h : AH) (Q : Option Value → AH → Prop), WP 29 13 [.ref x0, .int x1, .retAddr 0] (st) h Q ↔ WP 29 14 [.ref x0, .int x1, .retAddr 0] (.int x1 :: st) h Q) ∧
  (∀ (x0 : Nat) (x1 : Int32) (st : List Value) (h : AH) (Q : Option Value → AH → Prop), WP 29 14 [.ref x0, .int x1, .retAddr 0] (st) h Q ↔ WP 29 15 [.ref x0, .int x1, .retAddr 0] (.int (1) :: st) h Q) ∧
  (∀ (x0 : Nat) (x1 : Int32) (y0 : Int32) (y1 : Int32) (y2 : Nat) (st : List Value) (h : AH) (Q : Option Value → AH → Prop) (ht : hT h y2 = 100) (hi : inb y1 (hL h y2) = true), WP 29 15 [.ref x0, .int x1, .retAddr 0] (.int y0 :: .int y1 :: .ref y2 :: st) h Q ↔ WP 29 16 [.ref x0, .int x1, .retAddr 0] (st) (sI h y2 y1.toNatClampNeg y0) Q) ∧
  (∀ (x0 : Nat) (x1 : Int32) (st : List Value) (h : AH) (Q : Option Value → AH → Prop), WP 29 16 [.ref x0, .int x1, .retAddr 0] (st) h Q ↔ WP 29 17 [.ref x0, .int x1, .retAddr 0] (.ref x0 :: st) h Q) ∧
  (∀ (x0 : Nat) (x1 : Int32) (y0 : Nat) (st : List Value) (h : AH) (Q : Option Value → AH → Prop) (ht : hT h y0 = 4), WP 29 17 [.ref x0, .int x1, .retAddr 0] (.ref y0 :: st) h Q ↔ WP 29 20 [.ref x0, .int x1, .retAddr 0] (.ref (hR h y0 12) :: st) h Q) ∧
  (∀ (x0 : Nat) (x1 : Int32) (st : List Value) (h : AH) (Q : Option Value → AH → Prop), WP 29 20 [.ref x0, .int x1, .retAddr 0] (st) h Q ↔ WP 29 21 [.ref x0, .int x1, .retAddr 0] (.int x1 :: st) h Q) ∧
  (∀ (x0 : Nat) (x1 : Int32) (st : List Value) (h : AH) (Q : Option Value → AH → Prop), WP 29 21 [.ref x0, .int x1, .retAddr 0] (st) h Q ↔ WP 29 22 [.ref x0, .int x1, .retAddr 0] (.int (0) :: st) h Q) ∧
  (∀ (x0 : Nat) (x1 : Int32) (y0 : Int32) (y1 : Int32) (y2 : Nat) (st : List Value) (h : AH) (Q : Option Value → AH → Prop) (ht : hT h y2 = 100) (hi : inb y1 (hL h y2) = true), WP 29 22 [.ref x0, .int x1, .retAddr 0] (.int y0 :: .int y1 :: .ref y2 :: st) h Q ↔ WP 29 23 [.ref x0, .int x1, .retAddr 0] (st) (sI h y2 y1.toNatClampNeg y0) Q) ∧
  (∀ (x0 : Nat) (x1 : Int32) (st : List Value) (h : AH) (Q : Option Value → AH → Prop), WP 29 23 [.ref x0, .int x1, .retAddr 0] (st) h Q ↔ WP 29 24 [.ref x0, .int x1, .retAddr 0] (.int (0) :: st) h Q) ∧
  (∀ (x0 : Nat) (x1 : Int32) (y0 : Int32) (st : List Value) (h : AH) (Q : Option Value → AH → Prop), WP 29 24 [.ref x0, .int x1, .retAddr 0] (.int y0 :: st) h Q ↔ WP 29 25 [.ref x0, .int x1, .int y0] (st) h Q) ∧
  (∀ (x0 : Nat) (x1 : Int32) (x2 : Int32) (st : List Value) (h : AH) (Q : Option Value → AH → Prop), WP 29 26 [.ref x0, .int x1, .int x2] (st) h Q ↔ WP 29 27 [.ref x0, .int x1, .int x2] (.int x1 :: st) h Q) ∧
  (∀ (x0 : Nat) (x1 : Int32) (x2 : Int32) (y0 : Int32) (y1 : Int32) (st : List Value) (h : AH) (Q : Option Value → AH → Prop), WP 29 27 [.ref x0, .int x1, .int x2] (.int y0 :: .int y1 :: st) h Q ↔ ((y0 ≤ y1 → WP 29 103 [.ref x0, .int x1, .int x2] (st) h Q) ∧ (¬ y0 ≤ y1 → WP 29 30 [.ref x0, .int x1, .int x2] (st) h Q))) ∧
  (∀ (x0 : Nat) (x1 : Int32) (x2 : Int32) (st : List Value) (h : AH) (Q : Option Value → AH → Prop), WP 29 30 [.ref x0, .int x1, .int x2] (st) h Q ↔ WP 29 31 [.ref x0, .int x1, .int x2] (.ref x0 :: st) h Q) ∧
  (∀ (x0 : Nat) (x1 : Int32) (x2 : Int32) (y0 : Nat) (st : List Value) (h : AH) (Q : Option Value → AH → Prop) (ht : hT h y0 = 4), WP 29 31 [.ref x0, .int x1, .int x2] (.ref y0 :: st) h Q ↔ WP 29 34 [.ref x0, .int x1, .int x2] (.ref (hR h y0 6) :: st) h Q) ∧
  (∀ (x0 : Nat) (x1 : Int32) (x2 : Int32) (st : List Value) (h : AH) (Q : Option Value → AH → Prop), WP 29 34 [.ref x0, .int x1, .int x2] (st) h Q ↔ WP 29 35 [.ref x0, .int x1, .int x2] (.int x1 :: st) h Q) ∧
  (∀ (x0 : Nat) (x1 : Int32) (x2 : Int32) (y0 : Int32) (y1 : Nat) (st : List Value) (h : AH) (Q : Option Value → AH → Prop) (ht : hT h y1 = 100 ∨ hT h y1 = 110) (hi : inb y0 (hL h y1) = true), WP 29 35 [.ref x0, .int x1, .int x2] (.int y0 :: .ref y1 :: st) h Q ↔ WP 29 36 [.ref x0, .int x1, .int x2] (.int (hI h y1 y0.toNatClampNeg) :: st) h Q) ∧
  (∀ (x0 : Nat) (x1 : Int32) (x2 : Int32) (st : List Value) (h : AH) (Q : Option Value → AH → Prop), WP 29 36 [.ref x0, .int x1, .int x2] (st) h Q ↔ WP 29 37 [.ref x0, .int x1, .int x2] (.int x2 :: st) h Q) ∧
  (∀ (x0 : Nat) (x1 : Int32) (x2 : Int32) (y1 : Int32) (y0 : Int32) (h : AH) (Q : Option Value → AH → Prop), WP 29 37 [.ref x0, .int x1, .int x2] ([.int y0, .int y1]) h Q ↔ WPM 140 [.int y1, .int y0] h (fun r h' => WP 29 40 [.ref x0, .int x1, .int x2] (r.toList ++ []) h' Q)) ∧
  (∀ (x0 : Nat) (x1 : Int32) (x2 : Int32) (st : List Value) (h : AH) (Q : Option Value → AH → Prop), WP 29 40 [.ref x0, .int x1, .int x2] (st) h Q ↔ WP 29 41 [.ref x0, .int x1, .int x2] (.int (1) :: st) h Q) ∧
  (∀ (x0 : Nat) (x1 : Int32) (x2 : Int32) (y0 : Int32) (y1 : Int32) (st : List Value) (h : AH) (Q : Option Value → AH → Prop), WP 29 41 [.ref x0, .int x1, .int x2] (.int y0 :: .int y1 :: st) h Q ↔ ((¬ y1 = y0 → WP 29 97 [.ref x0, .int x1, .int x2] (st) h Q) ∧ (y1 = y0 → WP 29 44 [.ref x0, .int x1, .int x2] (st) h Q))) ∧
  (∀ (x0 : Nat) (x1 : Int32) (x2 : Int32) (st : List Value) (h : AH) (Q : Option Value → AH → Prop), WP 29 44 [.ref x0, .int x1, .int x2] (st) h Q ↔ WP 29 45 [.ref x0, .int x1, .int x2] (.ref x0 :: st) h Q) ∧
  (∀ (x0 : Nat) (x1 : Int32) (x2 : Int32) (y0 : Nat) (st : List Value) (h : AH) (Q : Option Value → AH → Prop) (ht : hT h y0 = 4), WP 29 45 [.ref x0, .int x1, .int x2] (.ref y0 :: st) h Q ↔ WP 29 48 [.ref x0, .int x1, .int x2] (.ref (hR h y0 7) :: st) h Q) ∧
  (∀ (x0 : Nat) (x1 : Int32) (x2 : Int32) (st : List Value) (h : AH) (Q : Option Value → AH → Prop), WP 29 48 [.ref x0, .int x1, .int x2] (st) h Q ↔ WP 29 49 [.ref x0, .int x1, .int x2] (.int x1 :: st) h Q) ∧
  (∀ (x0 : Nat) (x1 : Int32) (x2 : Int32) (y0 : Int32) (y1 : Nat) (st : List Value) (h : AH) (Q : Option Value → AH → Prop), WP 29 49 [.ref x0, .int x1, .int x2] (.int y0 :: .ref y1 :: st) h Q ↔ WP 29 50 [.ref x0, .int x1, .int x2] (.int y0 :: .ref y1 :: .int y0 :: .ref y1 :: st) h Q) ∧
  (∀ (x0 : Nat) (x1 : Int32) (x2 : Int32) (y0 : Int32) (y1 : Nat) (st : List Value) (h : AH) (Q : Option Value → AH → Prop) (ht : hT h y1 = 100 ∨ hT h y1 = 110) (hi : inb y0 (hL h y1) = true), WP 29 50 [.ref x0, .int x1, .int x2] (.int y0 :: .ref y1 :: st) h Q ↔ WP 29 51 [.ref x0, .int x1, .int x2] (.int (hI h y1 y0.toNatClampNeg) :: st) h Q) ∧
  (∀ (x0 : Nat) (x1 : Int32) (x2 : Int32) (st : List Value) (h : AH) (Q : Option Value → AH → Prop), WP 29 51 [.ref x0, .int x1, .int x2] (st) h Q ↔ WP 29 52 [.ref x0, .int x1, .int x2] (.ref x0 :: st) h Q) ∧
  (∀ (x0 : Nat) (x1 : Int32) (x2 : Int32) (y0 : Nat) (st : List Value) (h : AH) (Q : Option Value → AH → Prop) (ht : hT h y0 = 4), WP 29 52 [.ref x0, .int x1, .int x2] (.ref y0 :: st) h Q ↔ WP 29 55 [.ref x0, .int x1, .int x2] (.ref (hR h y0 7) :: st) h Q) ∧
  (∀ (x0 : Nat) (x1 : Int32) (x2 : Int32) (st : List Value) (h : AH) (Q : Option Value → AH → Prop), WP 29 55 [.ref x0, .int x1, .int x2] (st) h Q ↔ WP 29 56 [.ref x0, .int x1, .int x2] (.int x2 :: st) h Q) ∧
  (∀ (x0 : Nat) (x1 : Int32) (x2 : Int32) (y0 : Int32) (y1 : Nat) (st : List Value) (h : AH) (Q : Option Value → AH → Prop) (ht : hT h y1 = 100 ∨ hT h y1 = 110) (hi : inb y0 (hL h y1) = true), WP 29 56 [.ref x0, .int x1, .int x2] (.int y0 :: .ref y1 :: st) h Q ↔ WP 29 57 [.ref x0, .int x1, .int x2] (.int (hI h y1 y0.toNatClampNeg) :: st) h Q) ∧
  (∀ (x0 : Nat) (x1 : Int32) (x2 : Int32) (y0 : Int32) (y1 : Int32) (st : List Value) (h : AH) (Q : Option Value → AH → Prop), WP 29 57 [.ref x0, .int x1, .int x2] (.int y0 :: .int y1 :: st) h Q ↔ WP 29 58 [.ref x0, .int x1, .int x2] (.int (y1 ||| y0) :: st) h Q) ∧
  (∀ (x0 : Nat) (x1 : Int32) (x2 : Int32) (y0 : Int32) (y1 : Int32) (y2 : Nat) (st : List Value) (h : AH) (Q : Option Value → AH → Prop) (ht : hT h y2 = 100) (hi : inb y1 (hL h y2) = true), WP 29 58 [.ref x0, .int x1, .int x2] (.int y0 :: .int y1 :: .ref y2 :: st) h Q ↔ WP 29 59 [.ref x0, .int x1, .int x2] (st) (sI h y2 y1.toNatClampNeg y0) Q) :=
  ⟨fun _ _ _ _ _ => WP_s (show ct 29 0 = some (.aload_n 0, 0, []) by decide +kernel) rfl,
  fun _ _ _ _ _ _ ht => WH_gR (show ct 29 1 = some (.getfield 21, 1, [3, 7, 2, 166]) by decide +kernel) ht,
  fun _ _ _ _ _ => WP_s (show ct 29 4 = some (.iload_n 1, 0, []) by decide +kernel) rfl,
  fun _ _ _ _ _ => WP_s (show ct 29 5 = some (.iconst 1, 0, []) by decide +kernel) rfl,
  fun _ _ _ _ _ => WP_s (show ct 29 6 = some (.iload_n 1, 0, []) by decide +kernel) rfl,
  fun _ _ _ _ _ _ _ => WP_s (show ct 29 7 = some (.ishl, 0, []) by decide +kernel) rfl,
  fun _ _ _ _ _ _ _ _ ht hi => WH_iast (show ct 29 8 = some (.iastore, 1, []) by decide +kernel) ht hi,
  fun _ _ _ _ _ => WP_s (show ct 29 9 = some (.aload_n 0, 0, []) by decide +kernel) rfl,
  fun _ _ _ _ _ _ ht => WH_gR (show ct 29 10 = some (.getfield 33, 1, [3, 11, 2, 174]) by decide +kernel) ht,
  fun _ _ _ _ _ => WP_s (show ct 29 13 = some (.iload_n 1, 0, []) by decide +kernel) rfl,
  fun _ _ _ _ _ => WP_s (show ct 29 14 = some (.iconst 1, 0, []) by decide +kernel) rfl,
  fun _ _ _ _ _ _ _ _ ht hi => WH_iast (show ct 29 15 = some (.iastore, 1, []) by decide +kernel) ht hi,
  fun _ _ _ _ _ => WP_s (show ct 29 16 = some (.aload_n 0, 0, []) by decide +kernel) rfl,
  fun _ _ _ _ _ _ ht => WH_gR (show ct 29 17 = some (.getfield 36, 1, [3, 12, 2, 176]) by decide +kernel) ht,
  fun _ _ _ _ _ => WP_s (show ct 29 20 = some (.iload_n 1, 0, []) by decide +kernel) rfl,
  fun _ _ _ _ _ => WP_s (show ct 29 21 = some (.iconst 0, 0, []) by decide +kernel) rfl,
  fun _ _ _ _ _ _ _ _ ht hi => WH_iast (show ct 29 22 = some (.iastore, 1, []) by decide +kernel) ht hi,
  fun _ _ _ _ _ => WP_s (show ct 29 23 = some (.iconst 0, 0, []) by decide +kernel) rfl,
  fun _ _ _ _ _ _ => WP_s (show ct 29 24 = some (.istore_n 2, 0, []) by decide +kernel) rfl,
  fun _ _ _ _ _ _ => WP_s (show ct 29 26 = some (.iload_n 1, 0, []) by decide +kernel) rfl,
  fun _ _ _ _ _ _ _ _ => WI_ge (show ct 29 27 = some (.if_icmp .ge 76, 0, [103]) by decide +kernel) (by decide),
  fun _ _ _ _ _ _ => WP_s (show ct 29 30 = some (.aload_n 0, 0, []) by decide +kernel) rfl,
  fun _ _ _ _ _ _ _ ht => WH_gR (show ct 29 31 = some (.getfield 18, 1, [3, 6, 2, 161]) by decide +kernel) ht,
  fun _ _ _ _ _ _ => WP_s (show ct 29 34 = some (.iload_n 1, 0, []) by decide +kernel) rfl,
  fun _ _ _ _ _ _ _ _ ht hi => WH_iald (show ct 29 35 = some (.iaload, 1, []) by decide +kernel) ht hi,
  fun _ _ _ _ _ _ => WP_s (show ct 29 36 = some (.iload_n 2, 0, []) by decide +kernel) rfl,
  fun _ _ _ _ _ _ _ => WC_0 (show ct 29 37 = some (.invokestatic 69, 3, [140, 2, 0, 0, 1, 692, 693, 0]) by decide +kernel) (Nat.le_of_ble_eq_true rfl) (Nat.le_of_ble_eq_true rfl) rfl rfl,
  fun _ _ _ _ _ _ => WP_s (show ct 29 40 = some (.iconst 1, 0, []) by decide +kernel) rfl,
  fun _ _ _ _ _ _ _ _ => WI_ne (show ct 29 41 = some (.if_icmp .ne 56, 0, [97]) by decide +kernel) (by decide),
  fun _ _ _ _ _ _ => WP_s (show ct 29 44 = some (.aload_n 0, 0, []) by decide +kernel) rfl,
  fun _ _ _ _ _ _ _ ht => WH_gR (show ct 29 45 = some (.getfield 21, 1, [3, 7, 2, 166]) by decide +kernel) ht,
  fun _ _ _ _ _ _ => WP_s (show ct 29 48 = some (.iload_n 1, 0, []) by decide +kernel) rfl,
  fun _ _ _ _ _ _ _ _ => WP_s (show ct 29 49 = some (.dup2, 0, []) by decide +kernel) rfl,
  fun _ _ _ _ _ _ _ _ ht hi => WH_iald (show ct 29 50 = some (.iaload, 1, []) by decide +kernel) ht hi,
  fun _ _ _ _ _ _ => WP_s (show ct 29 51 = some (.aload_n 0, 0, []) by decide +kernel) rfl,
  fun _ _ _ _ _ _ _ ht => WH_gR (show ct 29 52 = some (.getfield 21, 1, [3, 7, 2, 166]) by decide +kernel) ht,
  fun _ _ _ _ _ _ => WP_s (show ct 29 55 = some (.iload_n 2, 0, []) by decide +kernel) rfl,
  fun _ _ _ _ _ _ _ _ ht hi => WH_iald (show ct 29 56 = some (.iaload, 1, []) by decide +kernel) ht hi,
  fun _ _ _ _ _ _ _ _ => WP_s (show ct 29 57 = some (.ior, 0, []) by decide +kernel) rfl,
  fun _ _ _ _ _ _ _ _ _ ht hi => WH_iast (show ct 29 58 = some (.iastore, 1, []) by decide +kernel) ht hi⟩
set_option maxRecDepth 10000 in
theorem w29_b : (∀ (x0 : Nat) (x1 : Int32) (x2 : Int32) (st : List Value) (h : AH) (Q : Option Value → AH → Prop), WP 29 59 [.ref x0, .int x1, .int x2] (st) h Q ↔ WP 29 60 [.ref x0, .int x1, .int x2] (.ref x0 :: st) h Q) ∧
  (∀ (x0 : Nat) (x1 : Int32) (x2 : Int32) (y0 : Nat) (st : List Value) (h : AH) (Q : Option Value → AH → Prop) (ht : hT h y0 = 4), WP 29 60 [.ref x0, .int x1, .int x2] (.ref y0 :: st) h Q ↔ WP 29 63 [.ref x0, .int x1, .int x2] (.ref (hR h y0 11) :: st) h Q) ∧
  (∀ (x0 : Nat) (x1 : Int32) (x2 : Int32) (st : List Value) (h : AH) (Q : Option Value → AH → Prop), WP 29 63 [.ref x0, .int x1, .int x2] (st) h Q ↔ WP 29 64 [.ref x0, .int x1, .int x2] (.int x1 :: st) h Q) ∧
  (∀ (x0 : Nat) (x1 : Int32) (x2 : Int32) (y0 : Int32) (y1 : Nat) (st : List Value) (h : AH) (Q : Option Value → AH → Prop), WP 29 64 [.ref x0, .int x1, .int x2] (.int y0 :: .ref y1 :: st) h Q ↔ WP 29 65 [.ref x0, .int x1, .int x2] (.int y0 :: .ref y1 :: .int y0 :: .ref y1 :: st) h Q) ∧
  (∀ (x0 : Nat) (x1 : Int32) (x2 : Int32) (y0 : Int32) (y1 : Nat) (st : List Value) (h : AH) (Q : Option Value → AH → Prop) (ht : hT h y1 = 100 ∨ hT h y1 = 110) (hi : inb y0 (hL h y1) = true), WP 29 65 [.ref x0, .int x1, .int x2] (.int y0 :: .ref y1 :: st) h Q ↔ WP 29 66 [.ref x0, .int x1, .int x2] (.int (hI h y1 y0.toNatClampNeg) :: st) h Q) ∧
  (∀ (x0 : Nat) (x1 : Int32) (x2 : Int32) (st : List Value) (h : AH) (Q : Option Value → AH → Prop), WP 29 66 [.ref x0, .int x1, .int x2] (st) h Q ↔ WP 29 67 [.ref x0, .int x1, .int x2] (.ref x0 :: st) h Q) ∧
  (∀ (x0 : Nat) (x1 : Int32) (x2 : Int32) (y0 : Nat) (st : List Value) (h : AH) (Q : Option Value → AH → Prop) (ht : hT h y0 = 4), WP 29 67 [.ref x0, .int x1, .int x2] (.ref y0 :: st) h Q ↔ WP 29 70 [.ref x0, .int x1, .int x2] (.ref (hR h y0 11) :: st) h Q) ∧
  (∀ (x0 : Nat) (x1 : Int32) (x2 : Int32) (st : List Value) (h : AH) (Q : Option Value → AH → Prop), WP 29 70 [.ref x0, .int x1, .int x2] (st) h Q ↔ WP 29 71 [.ref x0, .int x1, .int x2] (.int x2 :: st) h Q) ∧
  (∀ (x0 : Nat) (x1 : Int32) (x2 : Int32) (y0 : Int32) (y1 : Nat) (st : List Value) (h : AH) (Q : Option Value → AH → Prop) (ht : hT h y1 = 100 ∨ hT h y1 = 110) (hi : inb y0 (hL h y1) = true), WP 29 71 [.ref x0, .int x1, .int x2] (.int y0 :: .ref y1 :: st) h Q ↔ WP 29 72 [.ref x0, .int x1, .int x2] (.int (hI h y1 y0.toNatClampNeg) :: st) h Q) ∧
  (∀ (x0 : Nat) (x1 : Int32) (x2 : Int32) (y0 : Int32) (y1 : Int32) (st : List Value) (h : AH) (Q : Option Value → AH → Prop), WP 29 72 [.ref x0, .int x1, .int x2] (.int y0 :: .int y1 :: st) h Q ↔ WP 29 73 [.ref x0, .int x1, .int x2] (.int (y1 + y0) :: st) h Q) ∧
  (∀ (x0 : Nat) (x1 : Int32) (x2 : Int32) (y0 : Int32) (y1 : Int32) (y2 : Nat) (st : List Value) (h : AH) (Q : Option Value → AH → Prop) (ht : hT h y2 = 100) (hi : inb y1 (hL h y2) = true), WP 29 73 [.ref x0, .int x1, .int x2] (.int y0 :: .int y1 :: .ref y2 :: st) h Q ↔ WP 29 74 [.ref x0, .int x1, .int x2] (st) (sI h y2 y1.toNatClampNeg y0) Q) ∧
  (∀ (x0 : Nat) (x1 : Int32) (x2 : Int32) (st : List Value) (h : AH) (Q : Option Value → AH → Prop), WP 29 74 [.ref x0, .int x1, .int x2] (st) h Q ↔ WP 29 75 [.ref x0, .int x1, .int x2] (.ref x0 :: st) h Q) ∧
  (∀ (x0 : Nat) (x1 : Int32) (x2 : Int32) (y0 : Nat) (st : List Value) (h : AH) (Q : Option Value → AH → Prop) (ht : hT h y0 = 4), WP 29 75 [.ref x0, .int x1, .int x2] (.ref y0 :: st) h Q ↔ WP 29 78 [.ref x0, .int x1, .int x2] (.ref (hR h y0 12) :: st) h Q) ∧
  (∀ (x0 : Nat) (x1 : Int32) (x2 : Int32) (st : List Value) (h : AH) (Q : Option Value → AH → Prop), WP 29 78 [.ref x0, .int x1, .int x2] (st) h Q ↔ WP 29 79 [.ref x0, .int x1, .int x2] (.int x1 :: st) h Q) ∧
  (∀ (x0 : Nat) (x1 : Int32) (x2 : Int32) (st : List Value) (h : AH) (Q : Option Value → AH → Prop), WP 29 79 [.ref x0, .int x1, .int x2] (st) h Q ↔ WP 29 80 [.ref x0, .int x1, .int x2] (.ref x0 :: st) h Q) ∧
  (∀ (x0 : Nat) (x1 : Int32) (x2 : Int32) (y0 : Nat) (st : List Value) (h : AH) (Q : Option Value → AH → Prop) (ht : hT h y0 = 4), WP 29 80 [.ref x0, .int x1, .int x2] (.ref y0 :: st) h Q ↔ WP 29 83 [.ref x0, .int x1, .int x2] (.ref (hR h y0 12) :: st) h Q) ∧
  (∀ (x0 : Nat) (x1 : Int32) (x2 : Int32) (st : List Value) (h : AH) (Q : Option Value → AH → Prop), WP 29 83 [.ref x0, .int x1, .int x2] (st) h Q ↔ WP 29 84 [.ref x0, .int x1, .int x2] (.int x1 :: st) h Q) ∧
  (∀ (x0 : Nat) (x1 : Int32) (x2 : Int32) (y0 : Int32) (y1 : Nat) (st : List Value) (h : AH) (Q : Option Value → AH → Prop) (ht : hT h y1 = 100 ∨ hT h y1 = 110) (hi : inb y0 (hL h y1) = true), WP 29 84 [.ref x0, .int x1, .int x2] (.int y0 :: .ref y1 :: st) h Q ↔ WP 29 85 [.ref x0, .int x1, .int x2] (.int (hI h y1 y0.toNatClampNeg) :: st) h Q) ∧
  (∀ (x0 : Nat) (x1 : Int32) (x2 : Int32) (st : List Value) (h : AH) (Q : Option Value → AH → Prop), WP 29 85 [.ref x0, .int x1, .int x2] (st) h Q ↔ WP 29 86 [.ref x0, .int x1, .int x2] (.ref x0 :: st) h Q) ∧
  (∀ (x0 : Nat) (x1 : Int32) (x2 : Int32) (y0 : Nat) (st : List Value) (h : AH) (Q : Option Value → AH → Prop) (ht : hT h y0 = 4), WP 29 86 [.ref x0, .int x1, .int x2] (.ref y0 :: st) h Q ↔ WP 29 89 [.ref x0, .int x1, .int x2] (.ref (hR h y0 12) :: st) h Q) ∧
  (∀ (x0 : Nat) (x1 : Int32) (x2 : Int32) (st : List Value) (h : AH) (Q : Option Value → AH → Prop), WP 29 89 [.ref x0, .int x1, .int x2] (st) h Q ↔ WP 29 90 [.ref x0, .int x1, .int x2] (.int x2 :: st) h Q) ∧
  (∀ (x0 : Nat) (x1 : Int32) (x2 : Int32) (y0 : Int32) (y1 : Nat) (st : List Value) (h : AH) (Q : Option Value → AH → Prop) (ht : hT h y1 = 100 ∨ hT h y1 = 110) (hi : inb y0 (hL h y1) = true), WP 29 90 [.ref x0, .int x1, .int x2] (.int y0 :: .ref y1 :: st) h Q ↔ WP 29 91 [.ref x0, .int x1, .int x2] (.int (hI h y1 y0.toNatClampNeg) :: st) h Q) ∧
  (∀ (x0 : Nat) (x1 : Int32) (x2 : Int32) (st : List Value) (h : AH) (Q : Option Value → AH → Prop), WP 29 91 [.ref x0, .int x1, .int x2] (st) h Q ↔ WP 29 92 [.ref x0, .int x1, .int x2] (.int (1) :: st) h Q) ∧
  (∀ (x0 : Nat) (x1 : Int32) (x2 : Int32) (y0 : Int32) (y1 : Int32) (st : List Value) (h : AH) (Q : Option Value → AH → Prop), WP 29 92 [.ref x0, .int x1, .int x2] (.int y0 :: .int y1 :: st) h Q ↔ WP 29 93 [.ref x0, .int x1, .int x2] (.int (y1 + y0) :: st) h Q) ∧
  (∀ (x0 : Nat) (x1 : Int32) (x2 : Int32) (y3 : Nat) (y2 : Int32) (y1 : Int32) (y0 : Int32) (h : AH) (Q : Option Value → AH → Prop), WP 29 93 [.ref x0, .int x1, .int x2] ([.int y0, .int y1, .int y2, .ref y3]) h Q ↔ WP 29 96 [.ref x0, .int x1, .int x2] ([.int (if y1 < y0 then y0 else y1), .int y2, .ref y3]) h Q) ∧
  (∀ (x0 : Nat) (x1 : Int32) (x2 : Int32) (y0 : Int32) (y1 : Int32) (y2 : Nat) (st : List Value) (h : AH) (Q : Option Value → AH → Prop) (ht : hT h y2 = 100) (hi : inb y1 (hL h y2) = true), WP 29 96 [.ref x0, .int x1, .int x2] (.int y0 :: .int y1 :: .ref y2 :: st) h Q ↔ WP 29 97 [.ref x0, .int x1, .int x2] (st) (sI h y2 y1.toNatClampNeg y0) Q) ∧
  (∀ (x0 : Nat) (x1 : Int32) (x2 : Int32) (st : List Value) (h : AH) (Q : Option Value → AH → Prop), WP 29 97 [.ref x0, .int x1, .int x2] (st) h Q ↔ WP 29 100 [.ref x0, .int x1, .int (x2 + (1))] (st) h Q) ∧
  (∀ (x0 : Nat) (x1 : Int32) (x2 : Int32) (st : List Value) (h : AH) (Q : Option Value → AH → Prop), WP 29 100 [.ref x0, .int x1, .int x2] (st) h Q ↔ WP 29 25 [.ref x0, .int x1, .int x2] (st) h Q) ∧
  (∀ (x0 : Nat) (x1 : Int32) (x2 : Int32) (h : AH) (Q : Option Value → AH → Prop), WP 29 103 [.ref x0, .int x1, .int x2] ([]) h Q ↔ Q none h) :=
  ⟨fun _ _ _ _ _ _ => WP_s (show ct 29 59 = some (.aload_n 0, 0, []) by decide +kernel) rfl,
  fun _ _ _ _ _ _ _ ht => WH_gR (show ct 29 60 = some (.getfield 33, 1, [3, 11, 2, 174]) by decide +kernel) ht,
  fun _ _ _ _ _ _ => WP_s (show ct 29 63 = some (.iload_n 1, 0, []) by decide +kernel) rfl,
  fun _ _ _ _ _ _ _ _ => WP_s (show ct 29 64 = some (.dup2, 0, []) by decide +kernel) rfl,
  fun _ _ _ _ _ _ _ _ ht hi => WH_iald (show ct 29 65 = some (.iaload, 1, []) by decide +kernel) ht hi,
  fun _ _ _ _ _ _ => WP_s (show ct 29 66 = some (.aload_n 0, 0, []) by decide +kernel) rfl,
  fun _ _ _ _ _ _ _ ht => WH_gR (show ct 29 67 = some (.getfield 33, 1, [3, 11, 2, 174]) by decide +kernel) ht,
  fun _ _ _ _ _ _ => WP_s (show ct 29 70 = some (.iload_n 2, 0, []) by decide +kernel) rfl,
  fun _ _ _ _ _ _ _ _ ht hi => WH_iald (show ct 29 71 = some (.iaload, 1, []) by decide +kernel) ht hi,
  fun _ _ _ _ _ _ _ _ => WP_s (show ct 29 72 = some (.iadd, 0, []) by decide +kernel) rfl,
  fun _ _ _ _ _ _ _ _ _ ht hi => WH_iast (show ct 29 73 = some (.iastore, 1, []) by decide +kernel) ht hi,
  fun _ _ _ _ _ _ => WP_s (show ct 29 74 = some (.aload_n 0, 0, []) by decide +kernel) rfl,
  fun _ _ _ _ _ _ _ ht => WH_gR (show ct 29 75 = some (.getfield 36, 1, [3, 12, 2, 176]) by decide +kernel) ht,
  fun _ _ _ _ _ _ => WP_s (show ct 29 78 = some (.iload_n 1, 0, []) by decide +kernel) rfl,
  fun _ _ _ _ _ _ => WP_s (show ct 29 79 = some (.aload_n 0, 0, []) by decide +kernel) rfl,
  fun _ _ _ _ _ _ _ ht => WH_gR (show ct 29 80 = some (.getfield 36, 1, [3, 12, 2, 176]) by decide +kernel) ht,
  fun _ _ _ _ _ _ => WP_s (show ct 29 83 = some (.iload_n 1, 0, []) by decide +kernel) rfl,
  fun _ _ _ _ _ _ _ _ ht hi => WH_iald (show ct 29 84 = some (.iaload, 1, []) by decide +kernel) ht hi,
  fun _ _ _ _ _ _ => WP_s (show ct 29 85 = some (.aload_n 0, 0, []) by decide +kernel) rfl,
  fun _ _ _ _ _ _ _ ht => WH_gR (show ct 29 86 = some (.getfield 36, 1, [3, 12, 2, 176]) by decide +kernel) ht,
  fun _ _ _ _ _ _ => WP_s (show ct 29 89 = some (.iload_n 2, 0, []) by decide +kernel) rfl,
  fun _ _ _ _ _ _ _ _ ht hi => WH_iald (show ct 29 90 = some (.iaload, 1, []) by decide +kernel) ht hi,
  fun _ _ _ _ _ _ => WP_s (show ct 29 91 = some (.iconst 1, 0, []) by decide +kernel) rfl,
  fun _ _ _ _ _ _ _ _ => WP_s (show ct 29 92 = some (.iadd, 0, []) by decide +kernel) rfl,
  fun _ _ _ _ _ _ _ _ _ => WH_max (show ct 29 93 = some (.invokestatic 76, 1, [0, 695, 696, 112, 697]) by decide +kernel) (Nat.le_of_ble_eq_true rfl),
  fun _ _ _ _ _ _ _ _ _ ht hi => WH_iast (show ct 29 96 = some (.iastore, 1, []) by decide +kernel) ht hi,
  fun _ _ _ _ _ _ => WP_s (show ct 29 97 = some (.iinc 2 1, 0, []) by decide +kernel) rfl,
  fun _ _ _ _ _ _ => WP_s (show ct 29 100 = some (.goto (-75), 0, [25]) by decide +kernel) rfl,
  fun _ _ _ _ _ => WR_v (show ct 29 103 = some (.return_, 2, [0]) by decide +kernel)⟩
/-- all of 29 -/
def w29_n : Nat := 2
/-! 30: FewBowls$Net.branchOf(I[II)I; loop heads [6, 68] -/
theorem w30_6 : ∀ (x0 : Nat) (x1 : Int32) (x2 : Nat) (x3 : Int32) (x4 : Int32) (x5 : Int32) (st : List Value) (h : AH) (Q : Option Value → AH → Prop), WP 30 6 [.ref x0, .int x1, .ref x2, .int x3, .int x4, .int x5, .retAddr 0] (st) h Q ↔ WP 30 8 [.ref x0, .int x1, .ref x2, .int x3, .int x4, .int x5, .retAddr 0] (.int x5 :: st) h Q := fun _ _ _ _ _ _ _ _ _ => WP_s (show ct 30 6 = some (.iload 5, 0, []) by decide +kernel) rfl
theorem w30_68 : ∀ (x0 : Nat) (x1 : Int32) (x2 : Nat) (x3 : Int32) (x4 : Int32) (x5 : Int32) (x6 : Int32) (st : List Value) (h : AH) (Q : Option Value → AH → Prop), WP 30 68 [.ref x0, .int x1, .ref x2, .int x3, .int x4, .int x5, .int x6] (st) h Q ↔ WP 30 70 [.ref x0, .int x1, .ref x2, .int x3, .int x4, .int x5, .int x6] (.int x6 :: st) h Q := fun _ _ _ _ _ _ _ _ _ _ => WP_s (show ct 30 68 = some (.iload 6, 0, []) by decide +kernel) rfl
set_option maxRecDepth 10000 in
theorem w30_a : (∀ (x0 : Nat) (x1 : Int32) (x2 : Nat) (x3 : Int32) (st : List Value) (h : AH) (Q : Option Value → AH → Prop), WP 30 0 [.ref x0, .int x1, .ref x2, .int x3, .retAddr 0, .retAddr 0, .retAddr 0] (st) h Q ↔ WP 30 1 [.ref x0, .int x1, .ref x2, .int x3, .retAddr 0, .retAddr 0, .retAddr 0] (.int (0) :: st) h Q) ∧
  (∀ (x0 : Nat) (x1 : Int32) (x2 : Nat) (x3 : Int32) (y0 : Int32) (st : List Value) (h : AH) (Q : Option Value → AH → Prop), WP 30 1 [.ref x0, .int x1, .ref x2, .int x3, .retAddr 0, .retAddr 0, .retAddr 0] (.int y0 :: st) h Q ↔ WP 30 3 [.ref x0, .int x1, .ref x2, .int x3, .int y0, .retAddr 0, .retAddr 0] (st) h Q) ∧
  (∀ (x0 : Nat) (x1 : Int32) (x2 : Nat) (x3 : Int32) (x4 : Int32) (st : List Value) (h : AH) (Q : Option Value → AH → Prop), WP 30 3 [.ref x0, .int x1, .ref x2, .int x3, .int x4, .retAddr 0, .retAddr 0] (st) h Q ↔ WP 30 4 [.ref x0, .int x1, .ref x2, .int x3, .int x4, .retAddr 0, .retAddr 0] (.int (0) :: st) h Q) ∧
  (∀ (x0 : Nat) (x1 : Int32) (x2 : Nat) (x3 : Int32) (x4 : Int32) (y0 : Int32) (st : List Value) (h : AH) (Q : Option Value → AH → Prop), WP 30 4 [.ref x0, .int x1, .ref x2, .int x3, .int x4, .retAddr 0, .retAddr 0] (.int y0 :: st) h Q ↔ WP 30 6 [.ref x0, .int x1, .ref x2, .int x3, .int x4, .int y0, .retAddr 0] (st) h Q) ∧
  (∀ (x0 : Nat) (x1 : Int32) (x2 : Nat) (x3 : Int32) (x4 : Int32) (x5 : Int32) (st : List Value) (h : AH) (Q : Option Value → AH → Prop), WP 30 8 [.ref x0, .int x1, .ref x2, .int x3, .int x4, .int x5, .retAddr 0] (st) h Q ↔ WP 30 9 [.ref x0, .int x1, .ref x2, .int x3, .int x4, .int x5, .retAddr 0] (.int x1 :: st) h Q) ∧
  (∀ (x0 : Nat) (x1 : Int32) (x2 : Nat) (x3 : Int32) (x4 : Int32) (x5 : Int32) (y0 : Int32) (y1 : Int32) (st : List Value) (h : AH) (Q : Option Value → AH → Prop), WP 30 9 [.ref x0, .int x1, .ref x2, .int x3, .int x4, .int x5, .retAddr 0] (.int y0 :: .int y1 :: st) h Q ↔ ((y0 ≤ y1 → WP 30 53 [.ref x0, .int x1, .ref x2, .int x3, .int x4, .int x5, .retAddr 0] (st) h Q) ∧ (¬ y0 ≤ y1 → WP 30 12 [.ref x0, .int x1, .ref x2, .int x3, .int x4, .int x5, .retAddr 0] (st) h Q))) ∧
  (∀ (x0 : Nat) (x1 : Int32) (x2 : Nat) (x3 : Int32) (x4 : Int32) (x5 : Int32) (st : List Value) (h : AH) (Q : Option Value → AH → Prop), WP 30 12 [.ref x0, .int x1, .ref x2, .int x3, .int x4, .int x5, .retAddr 0] (st) h Q ↔ WP 30 13 [.ref x0, .int x1, .ref x2, .int x3, .int x4, .int x5, .retAddr 0] (.ref x0 :: st) h Q) ∧
  (∀ (x0 : Nat) (x1 : Int32) (x2 : Nat) (x3 : Int32) (x4 : Int32) (x5 : Int32) (y0 : Nat) (st : List Value) (h : AH) (Q : Option Value → AH → Prop) (ht : hT h y0 = 4), WP 30 13 [.ref x0, .int x1, .ref x2, .int x3, .int x4, .int x5, .retAddr 0] (.ref y0 :: st) h Q ↔ WP 30 16 [.ref x0, .int x1, .ref x2, .int x3, .int x4, .int x5, .retAddr 0] (.ref (hR h y0 6) :: st) h Q) ∧
  (∀ (x0 : Nat) (x1 : Int32) (x2 : Nat) (x3 : Int32) (x4 : Int32) (x5 : Int32) (st : List Value) (h : AH) (Q : Option Value → AH → Prop), WP 30 16 [.ref x0, .int x1, .ref x2, .int x3, .int x4, .int x5, .retAddr 0] (st) h Q ↔ WP 30 17 [.ref x0, .int x1, .ref x2, .int x3, .int x4, .int x5, .retAddr 0] (.int x1 :: st) h Q) ∧
  (∀ (x0 : Nat) (x1 : Int32) (x2 : Nat) (x3 : Int32) (x4 : Int32) (x5 : Int32) (y0 : Int32) (y1 : Nat) (st : List Value) (h : AH) (Q : Option Value → AH → Prop) (ht : hT h y1 = 100 ∨ hT h y1 = 110) (hi : inb y0 (hL h y1) = true), WP 30 17 [.ref x0, .int x1, .ref x2, .int x3, .int x4, .int x5, .retAddr 0] (.int y0 :: .ref y1 :: st) h Q ↔ WP 30 18 [.ref x0, .int x1, .ref x2, .int x3, .int x4, .int x5, .retAddr 0] (.int (hI h y1 y0.toNatClampNeg) :: st) h Q) ∧
  (∀ (x0 : Nat) (x1 : Int32) (x2 : Nat) (x3 : Int32) (x4 : Int32) (x5 : Int32) (st : List Value) (h : AH) (Q : Option Value → AH → Prop), WP 30 18 [.ref x0, .int x1, .ref x2, .int x3, .int x4, .int x5, .retAddr 0] (st) h Q ↔ WP 30 20 [.ref x0, .int x1, .ref x2, .int x3, .int x4, .int x5, .retAddr 0] (.int x5 :: st) h Q) ∧
  (∀ (x0 : Nat) (x1 : Int32) (x2 : Nat) (x3 : Int32) (x4 : Int32) (x5 : Int32) (y1 : Int32) (y0 : Int32) (h : AH) (Q : Option Value → AH → Prop), WP 30 20 [.ref x0, .int x1, .ref x2, .int x3, .int x4, .int x5, .retAddr 0] ([.int y0, .int y1]) h Q ↔ WPM 140 [.int y1, .int y0] h (fun r h' => WP 30 23 [.ref x0, .int x1, .ref x2, .int x3, .int x4, .int x5, .retAddr 0] (r.toList ++ []) h' Q)) ∧
  (∀ (x0 : Nat) (x1 : Int32) (x2 : Nat) (x3 : Int32) (x4 : Int32) (x5 : Int32) (st : List Value) (h : AH) (Q : Option Value → AH → Prop), WP 30 23 [.ref x0, .int x1, .ref x2, .int x3, .int x4, .int x5, .retAddr 0] (st) h Q ↔ WP 30 24 [.ref x0, .int x1, .ref x2, .int x3, .int x4, .int x5, .retAddr 0] (.int (1) :: st) h Q) ∧
  (∀ (x0 : Nat) (x1 : Int32) (x2 : Nat) (x3 : Int32) (x4 : Int32) (x5 : Int32) (y0 : Int32) (y1 : Int32) (st : List Value) (h : AH) (Q : Option Value → AH → Prop), WP 30 24 [.ref x0, .int x1, .ref x2, .int x3, .int x4, .int x5, .retAddr 0] (.int y0 :: .int y1 :: st) h Q ↔ ((¬ y1 = y0 → WP 30 47 [.ref x0, .int x1, .ref x2, .int x3, .int x4, .int x5, .retAddr 0] (st) h Q) ∧ (y1 = y0 → WP 30 27 [.ref x0, .int x1, .ref x2, .int x3, .int x4, .int x5, .retAddr 0] (st) h Q))) ∧
  (∀ (x0 : Nat) (x1 : Int32) (x2 : Nat) (x3 : Int32) (x4 : Int32) (x5 : Int32) (st : List Value) (h : AH) (Q : Option Value → AH → Prop), WP 30 27 [.ref x0, .int x1, .ref x2, .int x3, .int x4, .int x5, .retAddr 0] (st) h Q ↔ WP 30 29 [.ref x0, .int x1, .ref x2, .int x3, .int x4, .int x5, .retAddr 0] (.int x4 :: st) h Q) ∧
  (∀ (x0 : Nat) (x1 : Int32) (x2 : Nat) (x3 : Int32) (x4 : Int32) (x5 : Int32) (st : List Value) (h : AH) (Q : Option Value → AH → Prop), WP 30 29 [.ref x0, .int x1, .ref x2, .int x3, .int x4, .int x5, .retAddr 0] (st) h Q ↔ WP 30 31 [.ref x0, .int x1, .ref x2, .int x3, .int x4, .int x5, .retAddr 0] (.int (6) :: st) h Q) ∧
  (∀ (x0 : Nat) (x1 : Int32) (x2 : Nat) (x3 : Int32) (x4 : Int32) (x5 : Int32) (y0 : Int32) (y1 : Int32) (st : List Value) (h : AH) (Q : Option Value → AH → Prop), WP 30 31 [.ref x0, .int x1, .ref x2, .int x3, .int x4, .int x5, .retAddr 0] (.int y0 :: .int y1 :: st) h Q ↔ ((y0 ≤ y1 → WP 30 47 [.ref x0, .int x1, .ref x2, .int x3, .int x4, .int x5, .retAddr 0] (st) h Q) ∧ (¬ y0 ≤ y1 → WP 30 34 [.ref x0, .int x1, .ref x2, .int x3, .int x4, .int x5, .retAddr 0] (st) h Q))) ∧
  (∀ (x0 : Nat) (x1 : Int32) (x2 : Nat) (x3 : Int32) (x4 : Int32) (x5 : Int32) (st : List Value) (h : AH) (Q : Option Value → AH → Prop), WP 30 34 [.ref x0, .int x1, .ref x2, .int x3, .int x4, .int x5, .retAddr 0] (st) h Q ↔ WP 30 35 [.ref x0, .int x1, .ref x2, .int x3, .int x4, .int x5, .retAddr 0] (.ref x0 :: st) h Q) ∧
  (∀ (x0 : Nat) (x1 : Int32) (x2 : Nat) (x3 : Int32) (x4 : Int32) (x5 : Int32) (st : List Value) (h : AH) (Q : Option Value → AH → Prop), WP 30 35 [.ref x0, .int x1, .ref x2, .int x3, .int x4, .int x5, .retAddr 0] (st) h Q ↔ WP 30 36 [.ref x0, .int x1, .ref x2, .int x3, .int x4, .int x5, .retAddr 0] (.ref x2 :: st) h Q) ∧
  (∀ (x0 : Nat) (x1 : Int32) (x2 : Nat) (x3 : Int32) (x4 : Int32) (x5 : Int32) (st : List Value) (h : AH) (Q : Option Value → AH → Prop), WP 30 36 [.ref x0, .int x1, .ref x2, .int x3, .int x4, .int x5, .retAddr 0] (st) h Q ↔ WP 30 38 [.ref x0, .int x1, .ref x2, .int x3, .int x4, .int x5, .retAddr 0] (.int x5 :: st) h Q) ∧
  (∀ (x0 : Nat) (x1 : Int32) (x2 : Nat) (x3 : Int32) (x4 : Int32) (x5 : Int32) (y0 : Int32) (y1 : Nat) (st : List Value) (h : AH) (Q : Option Value → AH → Prop) (ht : hT h y1 = 100 ∨ hT h y1 = 110) (hi : inb y0 (hL h y1) = true), WP 30 38 [.ref x0, .int x1, .ref x2, .int x3, .int x4, .int x5, .retAddr 0] (.int y0 :: .ref y1 :: st) h Q ↔ WP 30 39 [.ref x0, .int x1, .ref x2, .int x3, .int x4, .int x5, .retAddr 0] (.int (hI h y1 y0.toNatClampNeg) :: st) h Q) ∧
  (∀ (x0 : Nat) (x1 : Int32) (x2 : Nat) (x3 : Int32) (x4 : Int32) (x5 : Int32) (st : List Value) (h : AH) (Q : Option Value → AH → Prop), WP 30 39 [.ref x0, .int x1, .ref x2, .int x3, .int x4, .int x5, .retAddr 0] (st) h Q ↔ WP 30 41 [.ref x0, .int x1, .ref x2, .int x3, .int x4, .int x5, .retAddr 0] (.int x4 :: st) h Q) ∧
  (∀ (x0 : Nat) (x1 : Int32) (x2 : Nat) (x3 : Int32) (x4 : Int32) (x5 : Int32) (y2 : Nat) (y1 : Int32) (y0 : Int32) (h : AH) (Q : Option Value → AH → Prop) (ht : hT h y2 = 4), WP 30 41 [.ref x0, .int x1, .ref x2, .int x3, .int x4, .int x5, .retAddr 0] ([.int y0, .int y1, .ref y2]) h Q ↔ WPM 31 [.ref y2, .int y1, .int y0] h (fun r h' => WP 30 44 [.ref x0, .int x1, .ref x2, .int x3, .int x4, .int x5, .retAddr 0] (r.toList ++ []) h' Q)) ∧
  (∀ (x0 : Nat) (x1 : Int32) (x2 : Nat) (x3 : Int32) (x4 : Int32) (x5 : Int32) (st : List Value) (h : AH) (Q : Option Value → AH → Prop), WP 30 44 [.ref x0, .int x1, .ref x2, .int x3, .int x4, .int x5, .retAddr 0] (st) h Q ↔ WP 30 47 [.ref x0, .int x1, .ref x2, .int x3, .int (x4 + (1)), .int x5, .retAddr 0] (st) h Q) ∧
  (∀ (x0 : Nat) (x1 : Int32) (x2 : Nat) (x3 : Int32) (x4 : Int32) (x5 : Int32) (st : List Value) (h : AH) (Q : Option Value → AH → Prop), WP 30 47 [.ref x0, .int x1, .ref x2, .int x3, .int x4, .int x5, .retAddr 0] (st) h Q ↔ WP 30 50 [.ref x0, .int x1, .ref x2, .int x3, .int x4, .int (x5 + (1)), .retAddr 0] (st) h Q) ∧
  (∀ (x0 : Nat) (x1 : Int32) (x2 : Nat) (x3 : Int32) (x4 : Int32) (x5 : Int32) (st : List Value) (h : AH) (Q : Option Value → AH → Prop), WP 30 50 [.ref x0, .int x1, .ref x2, .int x3, .int x4, .int x5, .retAddr 0] (st) h Q ↔ WP 30 6 [.ref x0, .int x1, .ref x2, .int x3, .int x4, .int x5, .retAddr 0] (st) h Q) ∧
  (∀ (x0 : Nat) (x1 : Int32) (x2 : Nat) (x3 : Int32) (x4 : Int32) (x5 : Int32) (st : List Value) (h : AH) (Q : Option Value → AH → Prop), WP 30 53 [.ref x0, .int x1, .ref x2, .int x3, .int x4, .int x5, .retAddr 0] (st) h Q ↔ WP 30 55 [.ref x0, .int x1, .ref x2, .int x3, .int x4, .int x5, .retAddr 0] (.int x4 :: st) h Q) ∧
  (∀ (x0 : Nat) (x1 : Int32) (x2 : Nat) (x3 : Int32) (x4 : Int32) (x5 : Int32) (y0 : Int32) (st : List Value) (h : AH) (Q : Option Value → AH → Prop), WP 30 55 [.ref x0, .int x1, .ref x2, .int x3, .int x4, .int x5, .retAddr 0] (.int y0 :: st) h Q ↔ ((¬ y0 = 0 → WP 30 62 [.ref x0, .int x1, .ref x2, .int x3, .int x4, .int x5, .retAddr 0] (st) h Q) ∧ (y0 = 0 → WP 30 58 [.ref x0, .int x1, .ref x2, .int x3, .int x4, .int x5, .retAddr 0] (st) h Q))) ∧
  (∀ (x0 : Nat) (x1 : Int32) (x2 : Nat) (x3 : Int32) (x4 : Int32) (x5 : Int32) (st : List Value) (h : AH) (Q : Option Value → AH → Prop), WP 30 58 [.ref x0, .int x1, .ref x2, .int x3, .int x4, .int x5, .retAddr 0] (st) h Q ↔ WP 30 59 [.ref x0, .int x1, .ref x2, .int x3, .int x4, .int x5, .retAddr 0] (.int (1) :: st) h Q) ∧
  (∀ (x0 : Nat) (x1 : Int32) (x2 : Nat) (x3 : Int32) (x4 : Int32) (x5 : Int32) (st : List Value) (h : AH) (Q : Option Value → AH → Prop), WP 30 59 [.ref x0, .int x1, .ref x2, .int x3, .int x4, .int x5, .retAddr 0] (st) h Q ↔ WP 30 63 [.ref x0, .int x1, .ref x2, .int x3, .int x4, .int x5, .retAddr 0] (st) h Q) ∧
  (∀ (x0 : Nat) (x1 : Int32) (x2 : Nat) (x3 : Int32) (x4 : Int32) (x5 : Int32) (st : List Value) (h : AH) (Q : Option Value → AH → Prop), WP 30 62 [.ref x0, .int x1, .ref x2, .int x3, .int x4, .int x5, .retAddr 0] (st) h Q ↔ WP 30 63 [.ref x0, .int x1, .ref x2, .int x3, .int x4, .int x5, .retAddr 0] (.int x3 :: st) h Q) ∧
  (∀ (x0 : Nat) (x1 : Int32) (x2 : Nat) (x3 : Int32) (x4 : Int32) (x5 : Int32) (y0 : Int32) (st : List Value) (h : AH) (Q : Option Value → AH → Prop), WP 30 63 [.ref x0, .int x1, .ref x2, .int x3, .int x4, .int x5, .retAddr 0] (.int y0 :: st) h Q ↔ WP 30 65 [.ref x0, .int x1, .ref x2, .int x3, .int x4, .int y0, .retAddr 0] (st) h Q) ∧
  (∀ (x0 : Nat) (x1 : Int32) (x2 : Nat) (x3 : Int32) (x4 : Int32) (x5 : Int32) (st : List Value) (h : AH) (Q : Option Value → AH → Prop), WP 30 65 [.ref x0, .int x1, .ref x2, .int x3, .int x4, .int x5, .retAddr 0] (st) h Q ↔ WP 30 66 [.ref x0, .int x1, .ref x2, .int x3, .int x4, .int x5, .retAddr 0] (.int (0) :: st) h Q) ∧
  (∀ (x0 : Nat) (x1 : Int32) (x2 : Nat) (x3 : Int32) (x4 : Int32) (x5 : Int32) (y0 : Int32) (st : List Value) (h : AH) (Q : Option Value → AH → Prop), WP 30 66 [.ref x0, .int x1, .ref x2, .int x3, .int x4, .int x5, .retAddr 0] (.int y0 :: st) h Q ↔ WP 30 68 [.ref x0, .int x1, .ref x2, .int x3, .int x4, .int x5, .int y0] (st) h Q) ∧
  (∀ (x0 : Nat) (x1 : Int32) (x2 : Nat) (x3 : Int32) (x4 : Int32) (x5 : Int32) (x6 : Int32) (st : List Value) (h : AH) (Q : Option Value → AH → Prop), WP 30 70 [.ref x0, .int x1, .ref x2, .int x3, .int x4, .int x5, .int x6] (st) h Q ↔ WP 30 72 [.ref x0, .int x1, .ref x2, .int x3, .int x4, .int x5, .int x6] (.int x4 :: st) h Q) ∧
  (∀ (x0 : Nat) (x1 : Int32) (x2 : Nat) (x3 : Int32) (x4 : Int32) (x5 : Int32) (x6 : Int32) (y0 : Int32) (y1 : Int32) (st : List Value) (h : AH) (Q : Option Value → AH → Prop), WP 30 72 [.ref x0, .int x1, .ref x2, .int x3, .int x4, .int x5, .int x6] (.int y0 :: .int y1 :: st) h Q ↔ ((y0 ≤ y1 → WP 30 98 [.ref x0, .int x1, .ref x2, .int x3, .int x4, .int x5, .int x6] (st) h Q) ∧ (¬ y0 ≤ y1 → WP 30 75 [.ref x0, .int x1, .ref x2, .int x3, .int x4, .int x5, .int x6] (st) h Q))) ∧
  (∀ (x0 : Nat) (x1 : Int32) (x2 : Nat) (x3 : Int32) (x4 : Int32) (x5 : Int32) (x6 : Int32) (st : List Value) (h : AH) (Q : Option Value → AH → Prop), WP 30 75 [.ref x0, .int x1, .ref x2, .int x3, .int x4, .int x5, .int x6] (st) h Q ↔ WP 30 77 [.ref x0, .int x1, .ref x2, .int x3, .int x4, .int x5, .int x6] (.int x5 :: st) h Q) ∧
  (∀ (x0 : Nat) (x1 : Int32) (x2 : Nat) (x3 : Int32) (x4 : Int32) (x5 : Int32) (x6 : Int32) (st : List Value) (h : AH) (Q : Option Value → AH → Prop), WP 30 77 [.ref x0, .int x1, .ref x2, .int x3, .int x4, .int x5, .int x6] (st) h Q ↔ WP 30 78 [.ref x0, .int x1, .ref x2, .int x3, .int x4, .int x5, .int x6] (.ref x0 :: st) h Q) ∧
  (∀ (x0 : Nat) (x1 : Int32) (x2 : Nat) (x3 : Int32) (x4 : Int32) (x5 : Int32) (x6 : Int32) (y0 : Nat) (st : List Value) (h : AH) (Q : Option Value → AH → Prop) (ht : hT h y0 = 4), WP 30 78 [.ref x0, .int x1, .ref x2, .int x3, .int x4, .int x5, .int x6] (.ref y0 :: st) h Q ↔ WP 30 81 [.ref x0, .int x1, .ref x2, .int x3, .int x4, .int x5, .int x6] (.ref (hR h y0 13) :: st) h Q) ∧
  (∀ (x0 : Nat) (x1 : Int32) (x2 : Nat) (x3 : Int32) (x4 : Int32) (x5 : Int32) (x6 : Int32) (st : List Value) (h : AH) (Q : Option Value → AH → Prop), WP 30 81 [.ref x0, .int x1, .ref x2, .int x3, .int x4, .int x5, .int x6] (st) h Q ↔ WP 30 83 [.ref x0, .int x1, .ref x2, .int x3, .int x4, .int x5, .int x6] (.int x6 :: st) h Q) :=
  ⟨fun _ _ _ _ _ _ _ => WP_s (show ct 30 0 = some (.iconst 0, 0, []) by decide +kernel) rfl,
  fun _ _ _ _ _ _ _ _ => WP_s (show ct 30 1 = some (.istore 4, 0, []) by decide +kernel) rfl,
  fun _ _ _ _ _ _ _ _ => WP_s (show ct 30 3 = some (.iconst 0, 0, []) by decide +kernel) rfl,
  fun _ _ _ _ _ _ _ _ _ => WP_s (show ct 30 4 = some (.istore 5, 0, []) by decide +kernel) rfl,
  fun _ _ _ _ _ _ _ _ _ => WP_s (show ct 30 8 = some (.iload_n 1, 0, []) by decide +kernel) rfl,
  fun _ _ _ _ _ _ _ _ _ _ _ => WI_ge (show ct 30 9 = some (.if_icmp .ge 44, 0, [53]) by decide +kernel) (by decide),
  fun _ _ _ _ _ _ _ _ _ => WP_s (show ct 30 12 = some (.aload_n 0, 0, []) by decide +kernel) rfl,
  fun _ _ _ _ _ _ _ _ _ _ ht => WH_gR (show ct 30 13 = some (.getfield 18, 1, [3, 6, 2, 161]) by decide +kernel) ht,
  fun _ _ _ _ _ _ _ _ _ => WP_s (show ct 30 16 = some (.iload_n 1, 0, []) by decide +kernel) rfl,
  fun _ _ _ _ _ _ _ _ _ _ _ ht hi => WH_iald (show ct 30 17 = some (.iaload, 1, []) by decide +kernel) ht hi,
  fun _ _ _ _ _ _ _ _ _ => WP_s (show ct 30 18 = some (.iload 5, 0, []) by decide +kernel) rfl,
  fun _ _ _ _ _ _ _ _ _ _ => WC_0 (show ct 30 20 = some (.invokestatic 69, 3, [140, 2, 0, 0, 1, 692, 693, 0]) by decide +kernel) (Nat.le_of_ble_eq_true rfl) (Nat.le_of_ble_eq_true rfl) rfl rfl,
  fun _ _ _ _ _ _ _ _ _ => WP_s (show ct 30 23 = some (.iconst 1, 0, []) by decide +kernel) rfl,
  fun _ _ _ _ _ _ _ _ _ _ _ => WI_ne (show ct 30 24 = some (.if_icmp .ne 23, 0, [47]) by decide +kernel) (by decide),
  fun _ _ _ _ _ _ _ _ _ => WP_s (show ct 30 27 = some (.iload 4, 0, []) by decide +kernel) rfl,
  fun _ _ _ _ _ _ _ _ _ => WP_s (show ct 30 29 = some (.bipush 6, 0, []) by decide +kernel) rfl,
  fun _ _ _ _ _ _ _ _ _ _ _ => WI_ge (show ct 30 31 = some (.if_icmp .ge 16, 0, [47]) by decide +kernel) (by decide),
  fun _ _ _ _ _ _ _ _ _ => WP_s (show ct 30 34 = some (.aload_n 0, 0, []) by decide +kernel) rfl,
  fun _ _ _ _ _ _ _ _ _ => WP_s (show ct 30 35 = some (.aload_n 2, 0, []) by decide +kernel) rfl,
  fun _ _ _ _ _ _ _ _ _ => WP_s (show ct 30 36 = some (.iload 5, 0, []) by decide +kernel) rfl,
  fun _ _ _ _ _ _ _ _ _ _ _ ht hi => WH_iald (show ct 30 38 = some (.iaload, 1, []) by decide +kernel) ht hi,
  fun _ _ _ _ _ _ _ _ _ => WP_s (show ct 30 39 = some (.iload 4, 0, []) by decide +kernel) rfl,
  fun _ _ _ _ _ _ _ _ _ _ _ ht => WC_1 (show ct 30 41 = some (.invokevirtual 81, 3, [31, 3, 1, 4, 0, 708, 710, 10]) by decide +kernel) (Nat.le_of_ble_eq_true rfl) (Nat.le_of_ble_eq_true rfl) rfl rfl ht,
  fun _ _ _ _ _ _ _ _ _ => WP_s (show ct 30 44 = some (.iinc 4 1, 0, []) by decide +kernel) rfl,
  fun _ _ _ _ _ _ _ _ _ => WP_s (show ct 30 47 = some (.iinc 5 1, 0, []) by decide +kernel) rfl,
  fun _ _ _ _ _ _ _ _ _ => WP_s (show ct 30 50 = some (.goto (-44), 0, [6]) by decide +kernel) rfl,
  fun _ _ _ _ _ _ _ _ _ => WP_s (show ct 30 53 = some (.iload 4, 0, []) by decide +kernel) rfl,
  fun _ _ _ _ _ _ _ _ _ _ => WZ_ne (show ct 30 55 = some (.ifCond .ne 7, 0, [62]) by decide +kernel) (by decide),
  fun _ _ _ _ _ _ _ _ _ => WP_s (show ct 30 58 = some (.iconst 1, 0, []) by decide +kernel) rfl,
  fun _ _ _ _ _ _ _ _ _ => WP_s (show ct 30 59 = some (.goto 4, 0, [63]) by decide +kernel) rfl,
  fun _ _ _ _ _ _ _ _ _ => WP_s (show ct 30 62 = some (.iload_n 3, 0, []) by decide +kernel) rfl,
  fun _ _ _ _ _ _ _ _ _ _ => WP_s (show ct 30 63 = some (.istore 5, 0, []) by decide +kernel) rfl,
  fun _ _ _ _ _ _ _ _ _ => WP_s (show ct 30 65 = some (.iconst 0, 0, []) by decide +kernel) rfl,
  fun _ _ _ _ _ _ _ _ _ _ => WP_s (show ct 30 66 = some (.istore 6, 0, []) by decide +kernel) rfl,
  fun _ _ _ _ _ _ _ _ _ _ => WP_s (show ct 30 70 = some (.iload 4, 0, []) by decide +kernel) rfl,
  fun _ _ _ _ _ _ _ _ _ _ _ _ => WI_ge (show ct 30 72 = some (.if_icmp .ge 26, 0, [98]) by decide +kernel) (by decide),
  fun _ _ _ _ _ _ _ _ _ _ => WP_s (show ct 30 75 = some (.iload 5, 0, []) by decide +kernel) rfl,
  fun _ _ _ _ _ _ _ _ _ _ => WP_s (show ct 30 77 = some (.aload_n 0, 0, []) by decide +kernel) rfl,
  fun _ _ _ _ _ _ _ _ _ _ _ ht => WH_gR (show ct 30 78 = some (.getfield 39, 1, [3, 13, 2, 178]) by decide +kernel) ht,
  fun _ _ _ _ _ _ _ _ _ _ => WP_s (show ct 30 81 = some (.iload 6, 0, []) by decide +kernel) rfl⟩
set_option maxRecDepth 10000 in
theorem w30_b : (∀ (x0 : Nat) (x1 : Int32) (x2 : Nat) (x3 : Int32) (x4 : Int32) (x5 : Int32) (x6 : Int32) (y0 : Int32) (y1 : Nat) (st : List Value) (h : AH) (Q : Option Value → AH → Prop) (ht : hT h y1 = 100 ∨ hT h y1 = 110) (hi : inb y0 (hL h y1) = true), WP 30 83 [.ref x0, .int x1, .ref x2, .int x3, .int x4, .int x5, .int x6] (.int y0 :: .ref y1 :: st) h Q ↔ WP 30 84 [.ref x0, .int x1, .ref x2, .int x3, .int x4, .int x5, .int x6] (.int (hI h y1 y0.toNatClampNeg) :: st) h Q) ∧
  (∀ (x0 : Nat) (x1 : Int32) (x2 : Nat) (x3 : Int32) (x4 : Int32) (x5 : Int32) (x6 : Int32) (st : List Value) (h : AH) (Q : Option Value → AH → Prop), WP 30 84 [.ref x0, .int x1, .ref x2, .int x3, .int x4, .int x5, .int x6] (st) h Q ↔ WP 30 86 [.ref x0, .int x1, .ref x2, .int x3, .int x4, .int x5, .int x6] (.int x6 :: st) h Q) ∧
  (∀ (x0 : Nat) (x1 : Int32) (x2 : Nat) (x3 : Int32) (x4 : Int32) (x5 : Int32) (x6 : Int32) (y0 : Int32) (y1 : Int32) (st : List Value) (h : AH) (Q : Option Value → AH → Prop), WP 30 86 [.ref x0, .int x1, .ref x2, .int x3, .int x4, .int x5, .int x6] (.int y0 :: .int y1 :: st) h Q ↔ WP 30 87 [.ref x0, .int x1, .ref x2, .int x3, .int x4, .int x5, .int x6] (.int (y1 + y0) :: st) h Q) ∧
  (∀ (x0 : Nat) (x1 : Int32) (x2 : Nat) (x3 : Int32) (x4 : Int32) (x5 : Int32) (x6 : Int32) (y1 : Int32) (y0 : Int32) (h : AH) (Q : Option Value → AH → Prop), WP 30 87 [.ref x0, .int x1, .ref x2, .int x3, .int x4, .int x5, .int x6] ([.int y0, .int y1]) h Q ↔ WP 30 90 [.ref x0, .int x1, .ref x2, .int x3, .int x4, .int x5, .int x6] ([.int (if y1 < y0 then y0 else y1)]) h Q) ∧
  (∀ (x0 : Nat) (x1 : Int32) (x2 : Nat) (x3 : Int32) (x4 : Int32) (x5 : Int32) (x6 : Int32) (y0 : Int32) (st : List Value) (h : AH) (Q : Option Value → AH → Prop), WP 30 90 [.ref x0, .int x1, .ref x2, .int x3, .int x4, .int x5, .int x6] (.int y0 :: st) h Q ↔ WP 30 92 [.ref x0, .int x1, .ref x2, .int x3, .int x4, .int y0, .int x6] (st) h Q) ∧
  (∀ (x0 : Nat) (x1 : Int32) (x2 : Nat) (x3 : Int32) (x4 : Int32) (x5 : Int32) (x6 : Int32) (st : List Value) (h : AH) (Q : Option Value → AH → Prop), WP 30 92 [.ref x0, .int x1, .ref x2, .int x3, .int x4, .int x5, .int x6] (st) h Q ↔ WP 30 95 [.ref x0, .int x1, .ref x2, .int x3, .int x4, .int x5, .int (x6 + (1))] (st) h Q) ∧
  (∀ (x0 : Nat) (x1 : Int32) (x2 : Nat) (x3 : Int32) (x4 : Int32) (x5 : Int32) (x6 : Int32) (st : List Value) (h : AH) (Q : Option Value → AH → Prop), WP 30 95 [.ref x0, .int x1, .ref x2, .int x3, .int x4, .int x5, .int x6] (st) h Q ↔ WP 30 68 [.ref x0, .int x1, .ref x2, .int x3, .int x4, .int x5, .int x6] (st) h Q) ∧
  (∀ (x0 : Nat) (x1 : Int32) (x2 : Nat) (x3 : Int32) (x4 : Int32) (x5 : Int32) (x6 : Int32) (st : List Value) (h : AH) (Q : Option Value → AH → Prop), WP 30 98 [.ref x0, .int x1, .ref x2, .int x3, .int x4, .int x5, .int x6] (st) h Q ↔ WP 30 100 [.ref x0, .int x1, .ref x2, .int x3, .int x4, .int x5, .int x6] (.int x5 :: st) h Q) ∧
  (∀ (x0 : Nat) (x1 : Int32) (x2 : Nat) (x3 : Int32) (x4 : Int32) (x5 : Int32) (x6 : Int32) (y0 : Int32) (h : AH) (Q : Option Value → AH → Prop), WP 30 100 [.ref x0, .int x1, .ref x2, .int x3, .int x4, .int x5, .int x6] ([.int y0]) h Q ↔ Q (some (.int y0)) h) :=
  ⟨fun _ _ _ _ _ _ _ _ _ _ _ _ ht hi => WH_iald (show ct 30 83 = some (.iaload, 1, []) by decide +kernel) ht hi,
  fun _ _ _ _ _ _ _ _ _ _ => WP_s (show ct 30 84 = some (.iload 6, 0, []) by decide +kernel) rfl,
  fun _ _ _ _ _ _ _ _ _ _ _ _ => WP_s (show ct 30 86 = some (.iadd, 0, []) by decide +kernel) rfl,
  fun _ _ _ _ _ _ _ _ _ _ _ => WH_max (show ct 30 87 = some (.invokestatic 76, 1, [0, 695, 696, 112, 697]) by decide +kernel) (Nat.le_of_ble_eq_true rfl),
  fun _ _ _ _ _ _ _ _ _ _ _ => WP_s (show ct 30 90 = some (.istore 5, 0, []) by decide +kernel) rfl,
  fun _ _ _ _ _ _ _ _ _ _ => WP_s (show ct 30 92 = some (.iinc 6 1, 0, []) by decide +kernel) rfl,
  fun _ _ _ _ _ _ _ _ _ _ => WP_s (show ct 30 95 = some (.goto (-27), 0, [68]) by decide +kernel) rfl,
  fun _ _ _ _ _ _ _ _ _ _ => WP_s (show ct 30 98 = some (.iload 5, 0, []) by decide +kernel) rfl,
  fun _ _ _ _ _ _ _ _ _ _ => WR_i (show ct 30 100 = some (.ireturn, 2, [0]) by decide +kernel)⟩
/-- all of 30 -/
def w30_n : Nat := 2
/-! 31: FewBowls$Net.insertFalling(II)V; loop heads [2] -/
theorem w31_2 : ∀ (x0 : Nat) (x1 : Int32) (x2 : Int32) (x3 : Int32) (st : List Value) (h : AH) (Q : Option Value → AH → Prop), WP 31 2 [.ref x0, .int x1, .int x2, .int x3] (st) h Q ↔ WP 31 3 [.ref x0, .int x1, .int x2, .int x3] (.int x3 :: st) h Q := fun _ _ _ _ _ _ _ => WP_s (show ct 31 2 = some (.iload_n 3, 0, []) by decide +kernel) rfl
set_option maxRecDepth 10000 in
theorem w31 : (∀ (x0 : Nat) (x1 : Int32) (x2 : Int32) (st : List Value) (h : AH) (Q : Option Value → AH → Prop), WP 31 0 [.ref x0, .int x1, .int x2, .retAddr 0] (st) h Q ↔ WP 31 1 [.ref x0, .int x1, .int x2, .retAddr 0] (.int x2 :: st) h Q) ∧
  (∀ (x0 : Nat) (x1 : Int32) (x2 : Int32) (y0 : Int32) (st : List Value) (h : AH) (Q : Option Value → AH → Prop), WP 31 1 [.ref x0, .int x1, .int x2, .retAddr 0] (.int y0 :: st) h Q ↔ WP 31 2 [.ref x0, .int x1, .int x2, .int y0] (st) h Q) ∧
  (∀ (x0 : Nat) (x1 : Int32) (x2 : Int32) (x3 : Int32) (y0 : Int32) (st : List Value) (h : AH) (Q : Option Value → AH → Prop), WP 31 3 [.ref x0, .int x1, .int x2, .int x3] (.int y0 :: st) h Q ↔ ((y0 ≤ 0 → WP 31 38 [.ref x0, .int x1, .int x2, .int x3] (st) h Q) ∧ (¬ y0 ≤ 0 → WP 31 6 [.ref x0, .int x1, .int x2, .int x3] (st) h Q))) ∧
  (∀ (x0 : Nat) (x1 : Int32) (x2 : Int32) (x3 : Int32) (st : List Value) (h : AH) (Q : Option Value → AH → Prop), WP 31 6 [.ref x0, .int x1, .int x2, .int x3] (st) h Q ↔ WP 31 7 [.ref x0, .int x1, .int x2, .int x3] (.ref x0 :: st) h Q) ∧
  (∀ (x0 : Nat) (x1 : Int32) (x2 : Int32) (x3 : Int32) (y0 : Nat) (st : List Value) (h : AH) (Q : Option Value → AH → Prop) (ht : hT h y0 = 4), WP 31 7 [.ref x0, .int x1, .int x2, .int x3] (.ref y0 :: st) h Q ↔ WP 31 10 [.ref x0, .int x1, .int x2, .int x3] (.ref (hR h y0 13) :: st) h Q) ∧
  (∀ (x0 : Nat) (x1 : Int32) (x2 : Int32) (x3 : Int32) (st : List Value) (h : AH) (Q : Option Value → AH → Prop), WP 31 10 [.ref x0, .int x1, .int x2, .int x3] (st) h Q ↔ WP 31 11 [.ref x0, .int x1, .int x2, .int x3] (.int x3 :: st) h Q) ∧
  (∀ (x0 : Nat) (x1 : Int32) (x2 : Int32) (x3 : Int32) (st : List Value) (h : AH) (Q : Option Value → AH → Prop), WP 31 11 [.ref x0, .int x1, .int x2, .int x3] (st) h Q ↔ WP 31 12 [.ref x0, .int x1, .int x2, .int x3] (.int (1) :: st) h Q) ∧
  (∀ (x0 : Nat) (x1 : Int32) (x2 : Int32) (x3 : Int32) (y0 : Int32) (y1 : Int32) (st : List Value) (h : AH) (Q : Option Value → AH → Prop), WP 31 12 [.ref x0, .int x1, .int x2, .int x3] (.int y0 :: .int y1 :: st) h Q ↔ WP 31 13 [.ref x0, .int x1, .int x2, .int x3] (.int (y1 - y0) :: st) h Q) ∧
  (∀ (x0 : Nat) (x1 : Int32) (x2 : Int32) (x3 : Int32) (y0 : Int32) (y1 : Nat) (st : List Value) (h : AH) (Q : Option Value → AH → Prop) (ht : hT h y1 = 100 ∨ hT h y1 = 110) (hi : inb y0 (hL h y1) = true), WP 31 13 [.ref x0, .int x1, .int x2, .int x3] (.int y0 :: .ref y1 :: st) h Q ↔ WP 31 14 [.ref x0, .int x1, .int x2, .int x3] (.int (hI h y1 y0.toNatClampNeg) :: st) h Q) ∧
  (∀ (x0 : Nat) (x1 : Int32) (x2 : Int32) (x3 : Int32) (st : List Value) (h : AH) (Q : Option Value → AH → Prop), WP 31 14 [.ref x0, .int x1, .int x2, .int x3] (st) h Q ↔ WP 31 15 [.ref x0, .int x1, .int x2, .int x3] (.int x1 :: st) h Q) ∧
  (∀ (x0 : Nat) (x1 : Int32) (x2 : Int32) (x3 : Int32) (y0 : Int32) (y1 : Int32) (st : List Value) (h : AH) (Q : Option Value → AH → Prop), WP 31 15 [.ref x0, .int x1, .int x2, .int x3] (.int y0 :: .int y1 :: st) h Q ↔ ((y0 ≤ y1 → WP 31 38 [.ref x0, .int x1, .int x2, .int x3] (st) h Q) ∧ (¬ y0 ≤ y1 → WP 31 18 [.ref x0, .int x1, .int x2, .int x3] (st) h Q))) ∧
  (∀ (x0 : Nat) (x1 : Int32) (x2 : Int32) (x3 : Int32) (st : List Value) (h : AH) (Q : Option Value → AH → Prop), WP 31 18 [.ref x0, .int x1, .int x2, .int x3] (st) h Q ↔ WP 31 19 [.ref x0, .int x1, .int x2, .int x3] (.ref x0 :: st) h Q) ∧
  (∀ (x0 : Nat) (x1 : Int32) (x2 : Int32) (x3 : Int32) (y0 : Nat) (st : List Value) (h : AH) (Q : Option Value → AH → Prop) (ht : hT h y0 = 4), WP 31 19 [.ref x0, .int x1, .int x2, .int x3] (.ref y0 :: st) h Q ↔ WP 31 22 [.ref x0, .int x1, .int x2, .int x3] (.ref (hR h y0 13) :: st) h Q) ∧
  (∀ (x0 : Nat) (x1 : Int32) (x2 : Int32) (x3 : Int32) (st : List Value) (h : AH) (Q : Option Value → AH → Prop), WP 31 22 [.ref x0, .int x1, .int x2, .int x3] (st) h Q ↔ WP 31 23 [.ref x0, .int x1, .int x2, .int x3] (.int x3 :: st) h Q) ∧
  (∀ (x0 : Nat) (x1 : Int32) (x2 : Int32) (x3 : Int32) (st : List Value) (h : AH) (Q : Option Value → AH → Prop), WP 31 23 [.ref x0, .int x1, .int x2, .int x3] (st) h Q ↔ WP 31 24 [.ref x0, .int x1, .int x2, .int x3] (.ref x0 :: st) h Q) ∧
  (∀ (x0 : Nat) (x1 : Int32) (x2 : Int32) (x3 : Int32) (y0 : Nat) (st : List Value) (h : AH) (Q : Option Value → AH → Prop) (ht : hT h y0 = 4), WP 31 24 [.ref x0, .int x1, .int x2, .int x3] (.ref y0 :: st) h Q ↔ WP 31 27 [.ref x0, .int x1, .int x2, .int x3] (.ref (hR h y0 13) :: st) h Q) ∧
  (∀ (x0 : Nat) (x1 : Int32) (x2 : Int32) (x3 : Int32) (st : List Value) (h : AH) (Q : Option Value → AH → Prop), WP 31 27 [.ref x0, .int x1, .int x2, .int x3] (st) h Q ↔ WP 31 28 [.ref x0, .int x1, .int x2, .int x3] (.int x3 :: st) h Q) ∧
  (∀ (x0 : Nat) (x1 : Int32) (x2 : Int32) (x3 : Int32) (st : List Value) (h : AH) (Q : Option Value → AH → Prop), WP 31 28 [.ref x0, .int x1, .int x2, .int x3] (st) h Q ↔ WP 31 29 [.ref x0, .int x1, .int x2, .int x3] (.int (1) :: st) h Q) ∧
  (∀ (x0 : Nat) (x1 : Int32) (x2 : Int32) (x3 : Int32) (y0 : Int32) (y1 : Int32) (st : List Value) (h : AH) (Q : Option Value → AH → Prop), WP 31 29 [.ref x0, .int x1, .int x2, .int x3] (.int y0 :: .int y1 :: st) h Q ↔ WP 31 30 [.ref x0, .int x1, .int x2, .int x3] (.int (y1 - y0) :: st) h Q) ∧
  (∀ (x0 : Nat) (x1 : Int32) (x2 : Int32) (x3 : Int32) (y0 : Int32) (y1 : Nat) (st : List Value) (h : AH) (Q : Option Value → AH → Prop) (ht : hT h y1 = 100 ∨ hT h y1 = 110) (hi : inb y0 (hL h y1) = true), WP 31 30 [.ref x0, .int x1, .int x2, .int x3] (.int y0 :: .ref y1 :: st) h Q ↔ WP 31 31 [.ref x0, .int x1, .int x2, .int x3] (.int (hI h y1 y0.toNatClampNeg) :: st) h Q) ∧
  (∀ (x0 : Nat) (x1 : Int32) (x2 : Int32) (x3 : Int32) (y0 : Int32) (y1 : Int32) (y2 : Nat) (st : List Value) (h : AH) (Q : Option Value → AH → Prop) (ht : hT h y2 = 100) (hi : inb y1 (hL h y2) = true), WP 31 31 [.ref x0, .int x1, .int x2, .int x3] (.int y0 :: .int y1 :: .ref y2 :: st) h Q ↔ WP 31 32 [.ref x0, .int x1, .int x2, .int x3] (st) (sI h y2 y1.toNatClampNeg y0) Q) ∧
  (∀ (x0 : Nat) (x1 : Int32) (x2 : Int32) (x3 : Int32) (st : List Value) (h : AH) (Q : Option Value → AH → Prop), WP 31 32 [.ref x0, .int x1, .int x2, .int x3] (st) h Q ↔ WP 31 35 [.ref x0, .int x1, .int x2, .int (x3 + (-1))] (st) h Q) ∧
  (∀ (x0 : Nat) (x1 : Int32) (x2 : Int32) (x3 : Int32) (st : List Value) (h : AH) (Q : Option Value → AH → Prop), WP 31 35 [.ref x0, .int x1, .int x2, .int x3] (st) h Q ↔ WP 31 2 [.ref x0, .int x1, .int x2, .int x3] (st) h Q) ∧
  (∀ (x0 : Nat) (x1 : Int32) (x2 : Int32) (x3 : Int32) (st : List Value) (h : AH) (Q : Option Value → AH → Prop), WP 31 38 [.ref x0, .int x1, .int x2, .int x3] (st) h Q ↔ WP 31 39 [.ref x0, .int x1, .int x2, .int x3] (.ref x0 :: st) h Q) ∧
  (∀ (x0 : Nat) (x1 : Int32) (x2 : Int32) (x3 : Int32) (y0 : Nat) (st : List Value) (h : AH) (Q : Option Value → AH → Prop) (ht : hT h y0 = 4), WP 31 39 [.ref x0, .int x1, .int x2, .int x3] (.ref y0 :: st) h Q ↔ WP 31 42 [.ref x0, .int x1, .int x2, .int x3] (.ref (hR h y0 13) :: st) h Q) ∧
  (∀ (x0 : Nat) (x1 : Int32) (x2 : Int32) (x3 : Int32) (st : List Value) (h : AH) (Q : Option Value → AH → Prop), WP 31 42 [.ref x0, .int x1, .int x2, .int x3] (st) h Q ↔ WP 31 43 [.ref x0, .int x1, .int x2, .int x3] (.int x3 :: st) h Q) ∧
  (∀ (x0 : Nat) (x1 : Int32) (x2 : Int32) (x3 : Int32) (st : List Value) (h : AH) (Q : Option Value → AH → Prop), WP 31 43 [.ref x0, .int x1, .int x2, .int x3] (st) h Q ↔ WP 31 44 [.ref x0, .int x1, .int x2, .int x3] (.int x1 :: st) h Q) ∧
  (∀ (x0 : Nat) (x1 : Int32) (x2 : Int32) (x3 : Int32) (y0 : Int32) (y1 : Int32) (y2 : Nat) (st : List Value) (h : AH) (Q : Option Value → AH → Prop) (ht : hT h y2 = 100) (hi : inb y1 (hL h y2) = true), WP 31 44 [.ref x0, .int x1, .int x2, .int x3] (.int y0 :: .int y1 :: .ref y2 :: st) h Q ↔ WP 31 45 [.ref x0, .int x1, .int x2, .int x3] (st) (sI h y2 y1.toNatClampNeg y0) Q) ∧
  (∀ (x0 : Nat) (x1 : Int32) (x2 : Int32) (x3 : Int32) (h : AH) (Q : Option Value → AH → Prop), WP 31 45 [.ref x0, .int x1, .int x2, .int x3] ([]) h Q ↔ Q none h) :=
  ⟨fun _ _ _ _ _ _ => WP_s (show ct 31 0 = some (.iload_n 2, 0, []) by decide +kernel) rfl,
  fun _ _ _ _ _ _ _ => WP_s (show ct 31 1 = some (.istore_n 3, 0, []) by decide +kernel) rfl,
  fun _ _ _ _ _ _ _ _ => WZ_le (show ct 31 3 = some (.ifCond .le 35, 0, [38]) by decide +kernel) (by decide),
  fun _ _ _ _ _ _ _ => WP_s (show ct 31 6 = some (.aload_n 0, 0, []) by decide +kernel) rfl,
  fun _ _ _ _ _ _ _ _ ht => WH_gR (show ct 31 7 = some (.getfield 39, 1, [3, 13, 2, 178]) by decide +kernel) ht,
  fun _ _ _ _ _ _ _ => WP_s (show ct 31 10 = some (.iload_n 3, 0, []) by decide +kernel) rfl,
  fun _ _ _ _ _ _ _ => WP_s (show ct 31 11 = some (.iconst 1, 0, []) by decide +kernel) rfl,
  fun _ _ _ _ _ _ _ _ _ => WP_s (show ct 31 12 = some (.isub, 0, []) by decide +kernel) rfl,
  fun _ _ _ _ _ _ _ _ _ ht hi => WH_iald (show ct 31 13 = some (.iaload, 1, []) by decide +kernel) ht hi,
  fun _ _ _ _ _ _ _ => WP_s (show ct 31 14 = some (.iload_n 1, 0, []) by decide +kernel) rfl,
  fun _ _ _ _ _ _ _ _ _ => WI_ge (show ct 31 15 = some (.if_icmp .ge 23, 0, [38]) by decide +kernel) (by decide),
  fun _ _ _ _ _ _ _ => WP_s (show ct 31 18 = some (.aload_n 0, 0, []) by decide +kernel) rfl,
  fun _ _ _ _ _ _ _ _ ht => WH_gR (show ct 31 19 = some (.getfield 39, 1, [3, 13, 2, 178]) by decide +kernel) ht,
  fun _ _ _ _ _ _ _ => WP_s (show ct 31 22 = some (.iload_n 3, 0, []) by decide +kernel) rfl,
  fun _ _ _ _ _ _ _ => WP_s (show ct 31 23 = some (.aload_n 0, 0, []) by decide +kernel) rfl,
  fun _ _ _ _ _ _ _ _ ht => WH_gR (show ct 31 24 = some (.getfield 39, 1, [3, 13, 2, 178]) by decide +kernel) ht,
  fun _ _ _ _ _ _ _ => WP_s (show ct 31 27 = some (.iload_n 3, 0, []) by decide +kernel) rfl,
  fun _ _ _ _ _ _ _ => WP_s (show ct 31 28 = some (.iconst 1, 0, []) by decide +kernel) rfl,
  fun _ _ _ _ _ _ _ _ _ => WP_s (show ct 31 29 = some (.isub, 0, []) by decide +kernel) rfl,
  fun _ _ _ _ _ _ _ _ _ ht hi => WH_iald (show ct 31 30 = some (.iaload, 1, []) by decide +kernel) ht hi,
  fun _ _ _ _ _ _ _ _ _ _ ht hi => WH_iast (show ct 31 31 = some (.iastore, 1, []) by decide +kernel) ht hi,
  fun _ _ _ _ _ _ _ => WP_s (show ct 31 32 = some (.iinc 3 (-1), 0, []) by decide +kernel) rfl,
  fun _ _ _ _ _ _ _ => WP_s (show ct 31 35 = some (.goto (-33), 0, [2]) by decide +kernel) rfl,
  fun _ _ _ _ _ _ _ => WP_s (show ct 31 38 = some (.aload_n 0, 0, []) by decide +kernel) rfl,
  fun _ _ _ _ _ _ _ _ ht => WH_gR (show ct 31 39 = some (.getfield 39, 1, [3, 13, 2, 178]) by decide +kernel) ht,
  fun _ _ _ _ _ _ _ => WP_s (show ct 31 42 = some (.iload_n 3, 0, []) by decide +kernel) rfl,
  fun _ _ _ _ _ _ _ => WP_s (show ct 31 43 = some (.iload_n 1, 0, []) by decide +kernel) rfl,
  fun _ _ _ _ _ _ _ _ _ _ ht hi => WH_iast (show ct 31 44 = some (.iastore, 1, []) by decide +kernel) ht hi,
  fun _ _ _ _ _ _ => WR_v (show ct 31 45 = some (.return_, 2, [0]) by decide +kernel)⟩
/-! 32: FewBowls$Net.findUsers()V; loop heads [2, 21] -/
theorem w32_2 : ∀ (x0 : Nat) (x1 : Int32) (x2 : Value) (st : List Value) (h : AH) (Q : Option Value → AH → Prop), WP 32 2 [.ref x0, .int x1, x2] (st) h Q ↔ WP 32 3 [.ref x0, .int x1, x2] (.int x1 :: st) h Q := fun _ _ _ _ _ _ => WP_s (show ct 32 2 = some (.iload_n 1, 0, []) by decide +kernel) rfl
theorem w32_21 : ∀ (x0 : Nat) (x1 : Int32) (x2 : Int32) (st : List Value) (h : AH) (Q : Option Value → AH → Prop), WP 32 21 [.ref x0, .int x1, .int x2] (st) h Q ↔ WP 32 22 [.ref x0, .int x1, .int x2] (.int x2 :: st) h Q := fun _ _ _ _ _ _ => WP_s (show ct 32 21 = some (.iload_n 2, 0, []) by decide +kernel) rfl
set_option maxRecDepth 10000 in
theorem w32_a : (∀ (x0 : Nat) (st : List Value) (h : AH) (Q : Option Value → AH → Prop), WP 32 0 [.ref x0, .retAddr 0, .retAddr 0] (st) h Q ↔ WP 32 1 [.ref x0, .retAddr 0, .retAddr 0] (.int (0) :: st) h Q) ∧
  (∀ (x0 : Nat) (y0 : Int32) (st : List Value) (h : AH) (Q : Option Value → AH → Prop), WP 32 1 [.ref x0, .retAddr 0, .retAddr 0] (.int y0 :: st) h Q ↔ WP 32 2 [.ref x0, .int y0, .retAddr 0] (st) h Q) ∧
  (∀ (x0 : Nat) (x1 : Int32) (x2 : Value) (st : List Value) (h : AH) (Q : Option Value → AH → Prop), WP 32 3 [.ref x0, .int x1, x2] (st) h Q ↔ WP 32 4 [.ref x0, .int x1, x2] (.ref x0 :: st) h Q) ∧
  (∀ (x0 : Nat) (x1 : Int32) (x2 : Value) (y0 : Nat) (st : List Value) (h : AH) (Q : Option Value → AH → Prop) (ht : hT h y0 = 4), WP 32 4 [.ref x0, .int x1, x2] (.ref y0 :: st) h Q ↔ WP 32 7 [.ref x0, .int x1, x2] (.int (hI h y0 0) :: st) h Q) ∧
  (∀ (x0 : Nat) (x1 : Int32) (x2 : Value) (y0 : Int32) (y1 : Int32) (st : List Value) (h : AH) (Q : Option Value → AH → Prop), WP 32 7 [.ref x0, .int x1, x2] (.int y0 :: .int y1 :: st) h Q ↔ ((y0 ≤ y1 → WP 32 79 [.ref x0, .int x1, x2] (st) h Q) ∧ (¬ y0 ≤ y1 → WP 32 10 [.ref x0, .int x1, x2] (st) h Q))) ∧
  (∀ (x0 : Nat) (x1 : Int32) (x2 : Value) (st : List Value) (h : AH) (Q : Option Value → AH → Prop), WP 32 10 [.ref x0, .int x1, x2] (st) h Q ↔ WP 32 11 [.ref x0, .int x1, x2] (.ref x0 :: st) h Q) ∧
  (∀ (x0 : Nat) (x1 : Int32) (x2 : Value) (y0 : Nat) (st : List Value) (h : AH) (Q : Option Value → AH → Prop) (ht : hT h y0 = 4), WP 32 11 [.ref x0, .int x1, x2] (.ref y0 :: st) h Q ↔ WP 32 14 [.ref x0, .int x1, x2] (.ref (hR h y0 8) :: st) h Q) ∧
  (∀ (x0 : Nat) (x1 : Int32) (x2 : Value) (st : List Value) (h : AH) (Q : Option Value → AH → Prop), WP 32 14 [.ref x0, .int x1, x2] (st) h Q ↔ WP 32 15 [.ref x0, .int x1, x2] (.int x1 :: st) h Q) ∧
  (∀ (x0 : Nat) (x1 : Int32) (x2 : Value) (st : List Value) (h : AH) (Q : Option Value → AH → Prop), WP 32 15 [.ref x0, .int x1, x2] (st) h Q ↔ WP 32 16 [.ref x0, .int x1, x2] (.int (0) :: st) h Q) ∧
  (∀ (x0 : Nat) (x1 : Int32) (x2 : Value) (y0 : Int32) (y1 : Int32) (y2 : Nat) (st : List Value) (h : AH) (Q : Option Value → AH → Prop) (ht : hT h y2 = 100) (hi : inb y1 (hL h y2) = true), WP 32 16 [.ref x0, .int x1, x2] (.int y0 :: .int y1 :: .ref y2 :: st) h Q ↔ WP 32 17 [.ref x0, .int x1, x2] (st) (sI h y2 y1.toNatClampNeg y0) Q) ∧
  (∀ (x0 : Nat) (x1 : Int32) (x2 : Value) (st : List Value) (h : AH) (Q : Option Value → AH → Prop), WP 32 17 [.ref x0, .int x1, x2] (st) h Q ↔ WP 32 18 [.ref x0, .int x1, x2] (.int x1 :: st) h Q) ∧
  (∀ (x0 : Nat) (x1 : Int32) (x2 : Value) (st : List Value) (h : AH) (Q : Option Value → AH → Prop), WP 32 18 [.ref x0, .int x1, x2] (st) h Q ↔ WP 32 19 [.ref x0, .int x1, x2] (.int (1) :: st) h Q) ∧
  (∀ (x0 : Nat) (x1 : Int32) (x2 : Value) (y0 : Int32) (y1 : Int32) (st : List Value) (h : AH) (Q : Option Value → AH → Prop), WP 32 19 [.ref x0, .int x1, x2] (.int y0 :: .int y1 :: st) h Q ↔ WP 32 20 [.ref x0, .int x1, x2] (.int (y1 + y0) :: st) h Q) ∧
  (∀ (x0 : Nat) (x1 : Int32) (x2 : Value) (y0 : Int32) (st : List Value) (h : AH) (Q : Option Value → AH → Prop), WP 32 20 [.ref x0, .int x1, x2] (.int y0 :: st) h Q ↔ WP 32 21 [.ref x0, .int x1, .int y0] (st) h Q) ∧
  (∀ (x0 : Nat) (x1 : Int32) (x2 : Int32) (st : List Value) (h : AH) (Q : Option Value → AH → Prop), WP 32 22 [.ref x0, .int x1, .int x2] (st) h Q ↔ WP 32 23 [.ref x0, .int x1, .int x2] (.ref x0 :: st) h Q) ∧
  (∀ (x0 : Nat) (x1 : Int32) (x2 : Int32) (y0 : Nat) (st : List Value) (h : AH) (Q : Option Value → AH → Prop) (ht : hT h y0 = 4), WP 32 23 [.ref x0, .int x1, .int x2] (.ref y0 :: st) h Q ↔ WP 32 26 [.ref x0, .int x1, .int x2] (.int (hI h y0 0) :: st) h Q) ∧
  (∀ (x0 : Nat) (x1 : Int32) (x2 : Int32) (y0 : Int32) (y1 : Int32) (st : List Value) (h : AH) (Q : Option Value → AH → Prop), WP 32 26 [.ref x0, .int x1, .int x2] (.int y0 :: .int y1 :: st) h Q ↔ ((y0 ≤ y1 → WP 32 73 [.ref x0, .int x1, .int x2] (st) h Q) ∧ (¬ y0 ≤ y1 → WP 32 29 [.ref x0, .int x1, .int x2] (st) h Q))) ∧
  (∀ (x0 : Nat) (x1 : Int32) (x2 : Int32) (st : List Value) (h : AH) (Q : Option Value → AH → Prop), WP 32 29 [.ref x0, .int x1, .int x2] (st) h Q ↔ WP 32 30 [.ref x0, .int x1, .int x2] (.ref x0 :: st) h Q) ∧
  (∀ (x0 : Nat) (x1 : Int32) (x2 : Int32) (y0 : Nat) (st : List Value) (h : AH) (Q : Option Value → AH → Prop) (ht : hT h y0 = 4), WP 32 30 [.ref x0, .int x1, .int x2] (.ref y0 :: st) h Q ↔ WP 32 33 [.ref x0, .int x1, .int x2] (.ref (hR h y0 6) :: st) h Q) ∧
  (∀ (x0 : Nat) (x1 : Int32) (x2 : Int32) (st : List Value) (h : AH) (Q : Option Value → AH → Prop), WP 32 33 [.ref x0, .int x1, .int x2] (st) h Q ↔ WP 32 34 [.ref x0, .int x1, .int x2] (.int x2 :: st) h Q) ∧
  (∀ (x0 : Nat) (x1 : Int32) (x2 : Int32) (y0 : Int32) (y1 : Nat) (st : List Value) (h : AH) (Q : Option Value → AH → Prop) (ht : hT h y1 = 100 ∨ hT h y1 = 110) (hi : inb y0 (hL h y1) = true), WP 32 34 [.ref x0, .int x1, .int x2] (.int y0 :: .ref y1 :: st) h Q ↔ WP 32 35 [.ref x0, .int x1, .int x2] (.int (hI h y1 y0.toNatClampNeg) :: st) h Q) ∧
  (∀ (x0 : Nat) (x1 : Int32) (x2 : Int32) (st : List Value) (h : AH) (Q : Option Value → AH → Prop), WP 32 35 [.ref x0, .int x1, .int x2] (st) h Q ↔ WP 32 36 [.ref x0, .int x1, .int x2] (.int x1 :: st) h Q) ∧
  (∀ (x0 : Nat) (x1 : Int32) (x2 : Int32) (y1 : Int32) (y0 : Int32) (h : AH) (Q : Option Value → AH → Prop), WP 32 36 [.ref x0, .int x1, .int x2] ([.int y0, .int y1]) h Q ↔ WPM 140 [.int y1, .int y0] h (fun r h' => WP 32 39 [.ref x0, .int x1, .int x2] (r.toList ++ []) h' Q)) ∧
  (∀ (x0 : Nat) (x1 : Int32) (x2 : Int32) (st : List Value) (h : AH) (Q : Option Value → AH → Prop), WP 32 39 [.ref x0, .int x1, .int x2] (st) h Q ↔ WP 32 40 [.ref x0, .int x1, .int x2] (.int (1) :: st) h Q) ∧
  (∀ (x0 : Nat) (x1 : Int32) (x2 : Int32) (y0 : Int32) (y1 : Int32) (st : List Value) (h : AH) (Q : Option Value → AH → Prop), WP 32 40 [.ref x0, .int x1, .int x2] (.int y0 :: .int y1 :: st) h Q ↔ ((¬ y1 = y0 → WP 32 67 [.ref x0, .int x1, .int x2] (st) h Q) ∧ (y1 = y0 → WP 32 43 [.ref x0, .int x1, .int x2] (st) h Q))) ∧
  (∀ (x0 : Nat) (x1 : Int32) (x2 : Int32) (st : List Value) (h : AH) (Q : Option Value → AH → Prop), WP 32 43 [.ref x0, .int x1, .int x2] (st) h Q ↔ WP 32 44 [.ref x0, .int x1, .int x2] (.ref x0 :: st) h Q) ∧
  (∀ (x0 : Nat) (x1 : Int32) (x2 : Int32) (y0 : Nat) (st : List Value) (h : AH) (Q : Option Value → AH → Prop) (ht : hT h y0 = 4), WP 32 44 [.ref x0, .int x1, .int x2] (.ref y0 :: st) h Q ↔ WP 32 47 [.ref x0, .int x1, .int x2] (.int (hI h y0 3) :: st) h Q) ∧
  (∀ (x0 : Nat) (x1 : Int32) (x2 : Int32) (st : List Value) (h : AH) (Q : Option Value → AH → Prop), WP 32 47 [.ref x0, .int x1, .int x2] (st) h Q ↔ WP 32 48 [.ref x0, .int x1, .int x2] (.int x2 :: st) h Q) ∧
  (∀ (x0 : Nat) (x1 : Int32) (x2 : Int32) (y1 : Int32) (y0 : Int32) (h : AH) (Q : Option Value → AH → Prop), WP 32 48 [.ref x0, .int x1, .int x2] ([.int y0, .int y1]) h Q ↔ WPM 140 [.int y1, .int y0] h (fun r h' => WP 32 51 [.ref x0, .int x1, .int x2] (r.toList ++ []) h' Q)) ∧
  (∀ (x0 : Nat) (x1 : Int32) (x2 : Int32) (st : List Value) (h : AH) (Q : Option Value → AH → Prop), WP 32 51 [.ref x0, .int x1, .int x2] (st) h Q ↔ WP 32 52 [.ref x0, .int x1, .int x2] (.int (1) :: st) h Q) ∧
  (∀ (x0 : Nat) (x1 : Int32) (x2 : Int32) (y0 : Int32) (y1 : Int32) (st : List Value) (h : AH) (Q : Option Value → AH → Prop), WP 32 52 [.ref x0, .int x1, .int x2] (.int y0 :: .int y1 :: st) h Q ↔ ((¬ y1 = y0 → WP 32 67 [.ref x0, .int x1, .int x2] (st) h Q) ∧ (y1 = y0 → WP 32 55 [.ref x0, .int x1, .int x2] (st) h Q))) ∧
  (∀ (x0 : Nat) (x1 : Int32) (x2 : Int32) (st : List Value) (h : AH) (Q : Option Value → AH → Prop), WP 32 55 [.ref x0, .int x1, .int x2] (st) h Q ↔ WP 32 56 [.ref x0, .int x1, .int x2] (.ref x0 :: st) h Q) ∧
  (∀ (x0 : Nat) (x1 : Int32) (x2 : Int32) (y0 : Nat) (st : List Value) (h : AH) (Q : Option Value → AH → Prop) (ht : hT h y0 = 4), WP 32 56 [.ref x0, .int x1, .int x2] (.ref y0 :: st) h Q ↔ WP 32 59 [.ref x0, .int x1, .int x2] (.ref (hR h y0 8) :: st) h Q) ∧
  (∀ (x0 : Nat) (x1 : Int32) (x2 : Int32) (st : List Value) (h : AH) (Q : Option Value → AH → Prop), WP 32 59 [.ref x0, .int x1, .int x2] (st) h Q ↔ WP 32 60 [.ref x0, .int x1, .int x2] (.int x1 :: st) h Q) ∧
  (∀ (x0 : Nat) (x1 : Int32) (x2 : Int32) (y0 : Int32) (y1 : Nat) (st : List Value) (h : AH) (Q : Option Value → AH → Prop), WP 32 60 [.ref x0, .int x1, .int x2] (.int y0 :: .ref y1 :: st) h Q ↔ WP 32 61 [.ref x0, .int x1, .int x2] (.int y0 :: .ref y1 :: .int y0 :: .ref y1 :: st) h Q) ∧
  (∀ (x0 : Nat) (x1 : Int32) (x2 : Int32) (y0 : Int32) (y1 : Nat) (st : List Value) (h : AH) (Q : Option Value → AH → Prop) (ht : hT h y1 = 100 ∨ hT h y1 = 110) (hi : inb y0 (hL h y1) = true), WP 32 61 [.ref x0, .int x1, .int x2] (.int y0 :: .ref y1 :: st) h Q ↔ WP 32 62 [.ref x0, .int x1, .int x2] (.int (hI h y1 y0.toNatClampNeg) :: st) h Q) ∧
  (∀ (x0 : Nat) (x1 : Int32) (x2 : Int32) (st : List Value) (h : AH) (Q : Option Value → AH → Prop), WP 32 62 [.ref x0, .int x1, .int x2] (st) h Q ↔ WP 32 63 [.ref x0, .int x1, .int x2] (.int (1) :: st) h Q) ∧
  (∀ (x0 : Nat) (x1 : Int32) (x2 : Int32) (st : List Value) (h : AH) (Q : Option Value → AH → Prop), WP 32 63 [.ref x0, .int x1, .int x2] (st) h Q ↔ WP 32 64 [.ref x0, .int x1, .int x2] (.int x2 :: st) h Q) ∧
  (∀ (x0 : Nat) (x1 : Int32) (x2 : Int32) (y0 : Int32) (y1 : Int32) (st : List Value) (h : AH) (Q : Option Value → AH → Prop), WP 32 64 [.ref x0, .int x1, .int x2] (.int y0 :: .int y1 :: st) h Q ↔ WP 32 65 [.ref x0, .int x1, .int x2] (.int (y1 <<< (y0 &&& 31)) :: st) h Q) ∧
  (∀ (x0 : Nat) (x1 : Int32) (x2 : Int32) (y0 : Int32) (y1 : Int32) (st : List Value) (h : AH) (Q : Option Value → AH → Prop), WP 32 65 [.ref x0, .int x1, .int x2] (.int y0 :: .int y1 :: st) h Q ↔ WP 32 66 [.ref x0, .int x1, .int x2] (.int (y1 ||| y0) :: st) h Q) :=
  ⟨fun _ _ _ _ => WP_s (show ct 32 0 = some (.iconst 0, 0, []) by decide +kernel) rfl,
  fun _ _ _ _ _ => WP_s (show ct 32 1 = some (.istore_n 1, 0, []) by decide +kernel) rfl,
  fun _ _ _ _ _ _ => WP_s (show ct 32 3 = some (.aload_n 0, 0, []) by decide +kernel) rfl,
  fun _ _ _ _ _ _ _ ht => WH_gI (show ct 32 4 = some (.getfield 42, 1, [3, 0, 0, 132]) by decide +kernel) (by decide) ht,
  fun _ _ _ _ _ _ _ _ => WI_ge (show ct 32 7 = some (.if_icmp .ge 72, 0, [79]) by decide +kernel) (by decide),
  fun _ _ _ _ _ _ => WP_s (show ct 32 10 = some (.aload_n 0, 0, []) by decide +kernel) rfl,
  fun _ _ _ _ _ _ _ ht => WH_gR (show ct 32 11 = some (.getfield 24, 1, [3, 8, 2, 168]) by decide +kernel) ht,
  fun _ _ _ _ _ _ => WP_s (show ct 32 14 = some (.iload_n 1, 0, []) by decide +kernel) rfl,
  fun _ _ _ _ _ _ => WP_s (show ct 32 15 = some (.iconst 0, 0, []) by decide +kernel) rfl,
  fun _ _ _ _ _ _ _ _ _ ht hi => WH_iast (show ct 32 16 = some (.iastore, 1, []) by decide +kernel) ht hi,
  fun _ _ _ _ _ _ => WP_s (show ct 32 17 = some (.iload_n 1, 0, []) by decide +kernel) rfl,
  fun _ _ _ _ _ _ => WP_s (show ct 32 18 = some (.iconst 1, 0, []) by decide +kernel) rfl,
  fun _ _ _ _ _ _ _ _ => WP_s (show ct 32 19 = some (.iadd, 0, []) by decide +kernel) rfl,
  fun _ _ _ _ _ _ _ => WP_s (show ct 32 20 = some (.istore_n 2, 0, []) by decide +kernel) rfl,
  fun _ _ _ _ _ _ => WP_s (show ct 32 22 = some (.aload_n 0, 0, []) by decide +kernel) rfl,
  fun _ _ _ _ _ _ _ ht => WH_gI (show ct 32 23 = some (.getfield 42, 1, [3, 0, 0, 132]) by decide +kernel) (by decide) ht,
  fun _ _ _ _ _ _ _ _ => WI_ge (show ct 32 26 = some (.if_icmp .ge 47, 0, [73]) by decide +kernel) (by decide),
  fun _ _ _ _ _ _ => WP_s (show ct 32 29 = some (.aload_n 0, 0, []) by decide +kernel) rfl,
  fun _ _ _ _ _ _ _ ht => WH_gR (show ct 32 30 = some (.getfield 18, 1, [3, 6, 2, 161]) by decide +kernel) ht,
  fun _ _ _ _ _ _ => WP_s (show ct 32 33 = some (.iload_n 2, 0, []) by decide +kernel) rfl,
  fun _ _ _ _ _ _ _ _ ht hi => WH_iald (show ct 32 34 = some (.iaload, 1, []) by decide +kernel) ht hi,
  fun _ _ _ _ _ _ => WP_s (show ct 32 35 = some (.iload_n 1, 0, []) by decide +kernel) rfl,
  fun _ _ _ _ _ _ _ => WC_0 (show ct 32 36 = some (.invokestatic 69, 3, [140, 2, 0, 0, 1, 692, 693, 0]) by decide +kernel) (Nat.le_of_ble_eq_true rfl) (Nat.le_of_ble_eq_true rfl) rfl rfl,
  fun _ _ _ _ _ _ => WP_s (show ct 32 39 = some (.iconst 1, 0, []) by decide +kernel) rfl,
  fun _ _ _ _ _ _ _ _ => WI_ne (show ct 32 40 = some (.if_icmp .ne 27, 0, [67]) by decide +kernel) (by decide),
  fun _ _ _ _ _ _ => WP_s (show ct 32 43 = some (.aload_n 0, 0, []) by decide +kernel) rfl,
  fun _ _ _ _ _ _ _ ht => WH_gI (show ct 32 44 = some (.getfield 52, 1, [3, 3, 0, 153]) by decide +kernel) (by decide) ht,
  fun _ _ _ _ _ _ => WP_s (show ct 32 47 = some (.iload_n 2, 0, []) by decide +kernel) rfl,
  fun _ _ _ _ _ _ _ => WC_0 (show ct 32 48 = some (.invokestatic 69, 3, [140, 2, 0, 0, 1, 692, 693, 0]) by decide +kernel) (Nat.le_of_ble_eq_true rfl) (Nat.le_of_ble_eq_true rfl) rfl rfl,
  fun _ _ _ _ _ _ => WP_s (show ct 32 51 = some (.iconst 1, 0, []) by decide +kernel) rfl,
  fun _ _ _ _ _ _ _ _ => WI_ne (show ct 32 52 = some (.if_icmp .ne 15, 0, [67]) by decide +kernel) (by decide),
  fun _ _ _ _ _ _ => WP_s (show ct 32 55 = some (.aload_n 0, 0, []) by decide +kernel) rfl,
  fun _ _ _ _ _ _ _ ht => WH_gR (show ct 32 56 = some (.getfield 24, 1, [3, 8, 2, 168]) by decide +kernel) ht,
  fun _ _ _ _ _ _ => WP_s (show ct 32 59 = some (.iload_n 1, 0, []) by decide +kernel) rfl,
  fun _ _ _ _ _ _ _ _ => WP_s (show ct 32 60 = some (.dup2, 0, []) by decide +kernel) rfl,
  fun _ _ _ _ _ _ _ _ ht hi => WH_iald (show ct 32 61 = some (.iaload, 1, []) by decide +kernel) ht hi,
  fun _ _ _ _ _ _ => WP_s (show ct 32 62 = some (.iconst 1, 0, []) by decide +kernel) rfl,
  fun _ _ _ _ _ _ => WP_s (show ct 32 63 = some (.iload_n 2, 0, []) by decide +kernel) rfl,
  fun _ _ _ _ _ _ _ _ => WP_s (show ct 32 64 = some (.ishl, 0, []) by decide +kernel) rfl,
  fun _ _ _ _ _ _ _ _ => WP_s (show ct 32 65 = some (.ior, 0, []) by decide +kernel) rfl⟩
set_option maxRecDepth 10000 in
theorem w32_b : (∀ (x0 : Nat) (x1 : Int32) (x2 : Int32) (y0 : Int32) (y1 : Int32) (y2 : Nat) (st : List Value) (h : AH) (Q : Option Value → AH → Prop) (ht : hT h y2 = 100) (hi : inb y1 (hL h y2) = true), WP 32 66 [.ref x0, .int x1, .int x2] (.int y0 :: .int y1 :: .ref y2 :: st) h Q ↔ WP 32 67 [.ref x0, .int x1, .int x2] (st) (sI h y2 y1.toNatClampNeg y0) Q) ∧
  (∀ (x0 : Nat) (x1 : Int32) (x2 : Int32) (st : List Value) (h : AH) (Q : Option Value → AH → Prop), WP 32 67 [.ref x0, .int x1, .int x2] (st) h Q ↔ WP 32 70 [.ref x0, .int x1, .int (x2 + (1))] (st) h Q) ∧
  (∀ (x0 : Nat) (x1 : Int32) (x2 : Int32) (st : List Value) (h : AH) (Q : Option Value → AH → Prop), WP 32 70 [.ref x0, .int x1, .int x2] (st) h Q ↔ WP 32 21 [.ref x0, .int x1, .int x2] (st) h Q) ∧
  (∀ (x0 : Nat) (x1 : Int32) (x2 : Int32) (st : List Value) (h : AH) (Q : Option Value → AH → Prop), WP 32 73 [.ref x0, .int x1, .int x2] (st) h Q ↔ WP 32 76 [.ref x0, .int (x1 + (1)), .int x2] (st) h Q) ∧
  (∀ (x0 : Nat) (x1 : Int32) (x2 : Int32) (st : List Value) (h : AH) (Q : Option Value → AH → Prop), WP 32 76 [.ref x0, .int x1, .int x2] (st) h Q ↔ WP 32 2 [.ref x0, .int x1, .int x2] (st) h Q) ∧
  (∀ (x0 : Nat) (x1 : Int32) (x2 : Value) (h : AH) (Q : Option Value → AH → Prop), WP 32 79 [.ref x0, .int x1, x2] ([]) h Q ↔ Q none h) :=
  ⟨fun _ _ _ _ _ _ _ _ _ ht hi => WH_iast (show ct 32 66 = some (.iastore, 1, []) by decide +kernel) ht hi,
  fun _ _ _ _ _ _ => WP_s (show ct 32 67 = some (.iinc 2 1, 0, []) by decide +kernel) rfl,
  fun _ _ _ _ _ _ => WP_s (show ct 32 70 = some (.goto (-49), 0, [21]) by decide +kernel) rfl,
  fun _ _ _ _ _ _ => WP_s (show ct 32 73 = some (.iinc 1 1, 0, []) by decide +kernel) rfl,
  fun _ _ _ _ _ _ => WP_s (show ct 32 76 = some (.goto (-74), 0, [2]) by decide +kernel) rfl,
  fun _ _ _ _ _ => WR_v (show ct 32 79 = some (.return_, 2, [0]) by decide +kernel)⟩
/-- all of 32 -/
def w32_n : Nat := 2

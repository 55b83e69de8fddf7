/-! 17: FewBowls$Desk.<init>()V; loop heads [] -/
set_option maxRecDepth 10000 in
theorem w17 : (∀ (x0 : Nat) (st : List Value) (h : AH) (Q : Option Value → AH → Prop), WP 17 0 [.ref x0] (st) h Q ↔ WP 17 1 [.ref x0] (.ref x0 :: st) h Q) ∧
  (∀ (x0 : Nat) (y0 : Nat) (h : AH) (Q : Option Value → AH → Prop) (h0 : y0 ≠ 0), WP 17 1 [.ref x0] ([.ref y0]) h Q ↔ WP 17 4 [.ref x0] ([]) h Q) ∧
  (∀ (x0 : Nat) (st : List Value) (h : AH) (Q : Option Value → AH → Prop), WP 17 4 [.ref x0] (st) h Q ↔ WP 17 5 [.ref x0] (.ref x0 :: st) h Q) ∧
  (∀ (x0 : Nat) (st : List Value) (h : AH) (Q : Option Value → AH → Prop), WP 17 5 [.ref x0] (st) h Q ↔ WP 17 6 [.ref x0] (.int (0) :: st) h Q) ∧
  (∀ (x0 : Nat) (y0 : Int32) (st : List Value) (h : AH) (Q : Option Value → AH → Prop) (h0 : 0 ≤ y0) (h1 : y0.toNatClampNeg ≤ 1048576), WP 17 6 [.ref x0] (.int y0 :: st) h Q ↔ WP 17 8 [.ref x0] (.ref (hN h) :: st) (nw h 100 y0.toNatClampNeg y0.toNatClampNeg) Q) ∧
  (∀ (x0 : Nat) (y0 : Nat) (y1 : Nat) (st : List Value) (h : AH) (Q : Option Value → AH → Prop) (ht : hT h y1 = 3), WP 17 8 [.ref x0] (.ref y0 :: .ref y1 :: st) h Q ↔ WP 17 11 [.ref x0] (st) (sR h y1 0 y0) Q) ∧
  (∀ (x0 : Nat) (st : List Value) (h : AH) (Q : Option Value → AH → Prop), WP 17 11 [.ref x0] (st) h Q ↔ WP 17 12 [.ref x0] (.ref x0 :: st) h Q) ∧
  (∀ (x0 : Nat) (st : List Value) (h : AH) (Q : Option Value → AH → Prop), WP 17 12 [.ref x0] (st) h Q ↔ WP 17 13 [.ref x0] (.int (0) :: st) h Q) ∧
  (∀ (x0 : Nat) (y0 : Int32) (st : List Value) (h : AH) (Q : Option Value → AH → Prop) (h0 : 0 ≤ y0) (h1 : y0.toNatClampNeg ≤ 1048576), WP 17 13 [.ref x0] (.int y0 :: st) h Q ↔ WP 17 15 [.ref x0] (.ref (hN h) :: st) (nw h 100 y0.toNatClampNeg y0.toNatClampNeg) Q) ∧
  (∀ (x0 : Nat) (y0 : Nat) (y1 : Nat) (st : List Value) (h : AH) (Q : Option Value → AH → Prop) (ht : hT h y1 = 3), WP 17 15 [.ref x0] (.ref y0 :: .ref y1 :: st) h Q ↔ WP 17 18 [.ref x0] (st) (sR h y1 1 y0) Q) ∧
  (∀ (x0 : Nat) (st : List Value) (h : AH) (Q : Option Value → AH → Prop), WP 17 18 [.ref x0] (st) h Q ↔ WP 17 19 [.ref x0] (.ref x0 :: st) h Q) ∧
  (∀ (x0 : Nat) (st : List Value) (h : AH) (Q : Option Value → AH → Prop), WP 17 19 [.ref x0] (st) h Q ↔ WP 17 20 [.ref x0] (.int (0) :: st) h Q) ∧
  (∀ (x0 : Nat) (y0 : Int32) (st : List Value) (h : AH) (Q : Option Value → AH → Prop) (h0 : 0 ≤ y0) (h1 : y0.toNatClampNeg ≤ 1048576), WP 17 20 [.ref x0] (.int y0 :: st) h Q ↔ WP 17 22 [.ref x0] (.ref (hN h) :: st) (nw h 100 y0.toNatClampNeg y0.toNatClampNeg) Q) ∧
  (∀ (x0 : Nat) (y0 : Nat) (y1 : Nat) (st : List Value) (h : AH) (Q : Option Value → AH → Prop) (ht : hT h y1 = 3), WP 17 22 [.ref x0] (.ref y0 :: .ref y1 :: st) h Q ↔ WP 17 25 [.ref x0] (st) (sR h y1 2 y0) Q) ∧
  (∀ (x0 : Nat) (st : List Value) (h : AH) (Q : Option Value → AH → Prop), WP 17 25 [.ref x0] (st) h Q ↔ WP 17 26 [.ref x0] (.ref x0 :: st) h Q) ∧
  (∀ (x0 : Nat) (st : List Value) (h : AH) (Q : Option Value → AH → Prop), WP 17 26 [.ref x0] (st) h Q ↔ WP 17 27 [.ref x0] (.int (0) :: st) h Q) ∧
  (∀ (x0 : Nat) (y0 : Int32) (st : List Value) (h : AH) (Q : Option Value → AH → Prop) (h0 : 0 ≤ y0) (h1 : y0.toNatClampNeg ≤ 1048576), WP 17 27 [.ref x0] (.int y0 :: st) h Q ↔ WP 17 29 [.ref x0] (.ref (hN h) :: st) (nw h 103 y0.toNatClampNeg y0.toNatClampNeg) Q) ∧
  (∀ (x0 : Nat) (y0 : Nat) (y1 : Nat) (st : List Value) (h : AH) (Q : Option Value → AH → Prop) (ht : hT h y1 = 3), WP 17 29 [.ref x0] (.ref y0 :: .ref y1 :: st) h Q ↔ WP 17 32 [.ref x0] (st) (sR h y1 3 y0) Q) ∧
  (∀ (x0 : Nat) (h : AH) (Q : Option Value → AH → Prop), WP 17 32 [.ref x0] ([]) h Q ↔ Q none h) :=
  ⟨fun _ _ _ _ => WP_s (show ct 17 0 = some (.aload_n 0, 0, []) by decide +kernel) rfl,
  fun _ _ _ _ h0 => WH_obj (show ct 17 1 = some (.invokespecial 1, 1, [330, 124, 125]) by decide +kernel) h0 (Nat.le_of_ble_eq_true rfl),
  fun _ _ _ _ => WP_s (show ct 17 4 = some (.aload_n 0, 0, []) by decide +kernel) rfl,
  fun _ _ _ _ => WP_s (show ct 17 5 = some (.iconst 0, 0, []) by decide +kernel) rfl,
  fun _ _ _ _ _ h0 h1 => WH_newa (show ct 17 6 = some (.newarray .int, 1, [100, 209]) by decide +kernel) (by decide) h0 h1,
  fun _ _ _ _ _ _ ht => WH_pR (show ct 17 8 = some (.putfield 7, 1, [2, 0, 2, 0, 331]) by decide +kernel) ht,
  fun _ _ _ _ => WP_s (show ct 17 11 = some (.aload_n 0, 0, []) by decide +kernel) rfl,
  fun _ _ _ _ => WP_s (show ct 17 12 = some (.iconst 0, 0, []) by decide +kernel) rfl,
  fun _ _ _ _ _ h0 h1 => WH_newa (show ct 17 13 = some (.newarray .int, 1, [100, 209]) by decide +kernel) (by decide) h0 h1,
  fun _ _ _ _ _ _ ht => WH_pR (show ct 17 15 = some (.putfield 13, 1, [2, 1, 2, 0, 332]) by decide +kernel) ht,
  fun _ _ _ _ => WP_s (show ct 17 18 = some (.aload_n 0, 0, []) by decide +kernel) rfl,
  fun _ _ _ _ => WP_s (show ct 17 19 = some (.iconst 0, 0, []) by decide +kernel) rfl,
  fun _ _ _ _ _ h0 h1 => WH_newa (show ct 17 20 = some (.newarray .int, 1, [100, 209]) by decide +kernel) (by decide) h0 h1,
  fun _ _ _ _ _ _ ht => WH_pR (show ct 17 22 = some (.putfield 16, 1, [2, 2, 2, 0, 333]) by decide +kernel) ht,
  fun _ _ _ _ => WP_s (show ct 17 25 = some (.aload_n 0, 0, []) by decide +kernel) rfl,
  fun _ _ _ _ => WP_s (show ct 17 26 = some (.iconst 0, 0, []) by decide +kernel) rfl,
  fun _ _ _ _ _ h0 h1 => WH_newa (show ct 17 27 = some (.newarray .long, 1, [103, 344]) by decide +kernel) (by decide) h0 h1,
  fun _ _ _ _ _ _ ht => WH_pR (show ct 17 29 = some (.putfield 19, 1, [2, 3, 2, 0, 334]) by decide +kernel) ht,
  fun _ _ _ => WR_v (show ct 17 32 = some (.return_, 2, [0]) by decide +kernel)⟩
/-! 18: FewBowls$Desk.firstRow(I)[I; loop heads [] -/
set_option maxRecDepth 10000 in
theorem w18 : (∀ (x0 : Nat) (x1 : Int32) (st : List Value) (h : AH) (Q : Option Value → AH → Prop), WP 18 0 [.ref x0, .int x1] (st) h Q ↔ WP 18 1 [.ref x0, .int x1] (.ref x0 :: st) h Q) ∧
  (∀ (x0 : Nat) (x1 : Int32) (y0 : Nat) (st : List Value) (h : AH) (Q : Option Value → AH → Prop) (ht : hT h y0 = 3), WP 18 1 [.ref x0, .int x1] (.ref y0 :: st) h Q ↔ WP 18 4 [.ref x0, .int x1] (.ref (hR h y0 0) :: st) h Q) ∧
  (∀ (x0 : Nat) (x1 : Int32) (y0 : Nat) (st : List Value) (h : AH) (Q : Option Value → AH → Prop) (ht : hT h y0 = 100 ∨ hT h y0 = 101 ∨ hT h y0 = 102 ∨ hT h y0 = 103 ∨ hT h y0 = 110), WP 18 4 [.ref x0, .int x1] (.ref y0 :: st) h Q ↔ WP 18 5 [.ref x0, .int x1] (.int (nI (hL h y0)) :: st) h Q) ∧
  (∀ (x0 : Nat) (x1 : Int32) (st : List Value) (h : AH) (Q : Option Value → AH → Prop), WP 18 5 [.ref x0, .int x1] (st) h Q ↔ WP 18 6 [.ref x0, .int x1] (.int x1 :: st) h Q) ∧
  (∀ (x0 : Nat) (x1 : Int32) (y0 : Int32) (y1 : Int32) (st : List Value) (h : AH) (Q : Option Value → AH → Prop), WP 18 6 [.ref x0, .int x1] (.int y0 :: .int y1 :: st) h Q ↔ ((y0 ≤ y1 → WP 18 16 [.ref x0, .int x1] (st) h Q) ∧ (¬ y0 ≤ y1 → WP 18 9 [.ref x0, .int x1] (st) h Q))) ∧
  (∀ (x0 : Nat) (x1 : Int32) (st : List Value) (h : AH) (Q : Option Value → AH → Prop), WP 18 9 [.ref x0, .int x1] (st) h Q ↔ WP 18 10 [.ref x0, .int x1] (.ref x0 :: st) h Q) ∧
  (∀ (x0 : Nat) (x1 : Int32) (st : List Value) (h : AH) (Q : Option Value → AH → Prop), WP 18 10 [.ref x0, .int x1] (st) h Q ↔ WP 18 11 [.ref x0, .int x1] (.int x1 :: st) h Q) ∧
  (∀ (x0 : Nat) (x1 : Int32) (y0 : Int32) (st : List Value) (h : AH) (Q : Option Value → AH → Prop) (h0 : 0 ≤ y0) (h1 : y0.toNatClampNeg ≤ 1048576), WP 18 11 [.ref x0, .int x1] (.int y0 :: st) h Q ↔ WP 18 13 [.ref x0, .int x1] (.ref (hN h) :: st) (nw h 100 y0.toNatClampNeg y0.toNatClampNeg) Q) ∧
  (∀ (x0 : Nat) (x1 : Int32) (y0 : Nat) (y1 : Nat) (st : List Value) (h : AH) (Q : Option Value → AH → Prop) (ht : hT h y1 = 3), WP 18 13 [.ref x0, .int x1] (.ref y0 :: .ref y1 :: st) h Q ↔ WP 18 16 [.ref x0, .int x1] (st) (sR h y1 0 y0) Q) ∧
  (∀ (x0 : Nat) (x1 : Int32) (st : List Value) (h : AH) (Q : Option Value → AH → Prop), WP 18 16 [.ref x0, .int x1] (st) h Q ↔ WP 18 17 [.ref x0, .int x1] (.ref x0 :: st) h Q) ∧
  (∀ (x0 : Nat) (x1 : Int32) (y0 : Nat) (st : List Value) (h : AH) (Q : Option Value → AH → Prop) (ht : hT h y0 = 3), WP 18 17 [.ref x0, .int x1] (.ref y0 :: st) h Q ↔ WP 18 20 [.ref x0, .int x1] (.ref (hR h y0 0) :: st) h Q) ∧
  (∀ (x0 : Nat) (x1 : Int32) (y0 : Nat) (h : AH) (Q : Option Value → AH → Prop), WP 18 20 [.ref x0, .int x1] ([.ref y0]) h Q ↔ Q (some (.ref y0)) h) :=
  ⟨fun _ _ _ _ _ => WP_s (show ct 18 0 = some (.aload_n 0, 0, []) by decide +kernel) rfl,
  fun _ _ _ _ _ _ ht => WH_gR (show ct 18 1 = some (.getfield 7, 1, [2, 0, 2, 331]) by decide +kernel) ht,
  fun _ _ _ _ _ _ ht => WH_alen (show ct 18 4 = some (.arraylength, 1, []) by decide +kernel) ht,
  fun _ _ _ _ _ => WP_s (show ct 18 5 = some (.iload_n 1, 0, []) by decide +kernel) rfl,
  fun _ _ _ _ _ _ _ => WI_ge (show ct 18 6 = some (.if_icmp .ge 10, 0, [16]) by decide +kernel) (by decide),
  fun _ _ _ _ _ => WP_s (show ct 18 9 = some (.aload_n 0, 0, []) by decide +kernel) rfl,
  fun _ _ _ _ _ => WP_s (show ct 18 10 = some (.iload_n 1, 0, []) by decide +kernel) rfl,
  fun _ _ _ _ _ _ h0 h1 => WH_newa (show ct 18 11 = some (.newarray .int, 1, [100, 209]) by decide +kernel) (by decide) h0 h1,
  fun _ _ _ _ _ _ _ ht => WH_pR (show ct 18 13 = some (.putfield 7, 1, [2, 0, 2, 0, 331]) by decide +kernel) ht,
  fun _ _ _ _ _ => WP_s (show ct 18 16 = some (.aload_n 0, 0, []) by decide +kernel) rfl,
  fun _ _ _ _ _ _ ht => WH_gR (show ct 18 17 = some (.getfield 7, 1, [2, 0, 2, 331]) by decide +kernel) ht,
  fun _ _ _ _ _ => WR_a (show ct 18 20 = some (.areturn, 2, [0]) by decide +kernel)⟩
/-! 19: FewBowls$Desk.secondRow(I)[I; loop heads [] -/
set_option maxRecDepth 10000 in
theorem w19 : (∀ (x0 : Nat) (x1 : Int32) (st : List Value) (h : AH) (Q : Option Value → AH → Prop), WP 19 0 [.ref x0, .int x1] (st) h Q ↔ WP 19 1 [.ref x0, .int x1] (.ref x0 :: st) h Q) ∧
  (∀ (x0 : Nat) (x1 : Int32) (y0 : Nat) (st : List Value) (h : AH) (Q : Option Value → AH → Prop) (ht : hT h y0 = 3), WP 19 1 [.ref x0, .int x1] (.ref y0 :: st) h Q ↔ WP 19 4 [.ref x0, .int x1] (.ref (hR h y0 1) :: st) h Q) ∧
  (∀ (x0 : Nat) (x1 : Int32) (y0 : Nat) (st : List Value) (h : AH) (Q : Option Value → AH → Prop) (ht : hT h y0 = 100 ∨ hT h y0 = 101 ∨ hT h y0 = 102 ∨ hT h y0 = 103 ∨ hT h y0 = 110), WP 19 4 [.ref x0, .int x1] (.ref y0 :: st) h Q ↔ WP 19 5 [.ref x0, .int x1] (.int (nI (hL h y0)) :: st) h Q) ∧
  (∀ (x0 : Nat) (x1 : Int32) (st : List Value) (h : AH) (Q : Option Value → AH → Prop), WP 19 5 [.ref x0, .int x1] (st) h Q ↔ WP 19 6 [.ref x0, .int x1] (.int x1 :: st) h Q) ∧
  (∀ (x0 : Nat) (x1 : Int32) (y0 : Int32) (y1 : Int32) (st : List Value) (h : AH) (Q : Option Value → AH → Prop), WP 19 6 [.ref x0, .int x1] (.int y0 :: .int y1 :: st) h Q ↔ ((y0 ≤ y1 → WP 19 16 [.ref x0, .int x1] (st) h Q) ∧ (¬ y0 ≤ y1 → WP 19 9 [.ref x0, .int x1] (st) h Q))) ∧
  (∀ (x0 : Nat) (x1 : Int32) (st : List Value) (h : AH) (Q : Option Value → AH → Prop), WP 19 9 [.ref x0, .int x1] (st) h Q ↔ WP 19 10 [.ref x0, .int x1] (.ref x0 :: st) h Q) ∧
  (∀ (x0 : Nat) (x1 : Int32) (st : List Value) (h : AH) (Q : Option Value → AH → Prop), WP 19 10 [.ref x0, .int x1] (st) h Q ↔ WP 19 11 [.ref x0, .int x1] (.int x1 :: st) h Q) ∧
  (∀ (x0 : Nat) (x1 : Int32) (y0 : Int32) (st : List Value) (h : AH) (Q : Option Value → AH → Prop) (h0 : 0 ≤ y0) (h1 : y0.toNatClampNeg ≤ 1048576), WP 19 11 [.ref x0, .int x1] (.int y0 :: st) h Q ↔ WP 19 13 [.ref x0, .int x1] (.ref (hN h) :: st) (nw h 100 y0.toNatClampNeg y0.toNatClampNeg) Q) ∧
  (∀ (x0 : Nat) (x1 : Int32) (y0 : Nat) (y1 : Nat) (st : List Value) (h : AH) (Q : Option Value → AH → Prop) (ht : hT h y1 = 3), WP 19 13 [.ref x0, .int x1] (.ref y0 :: .ref y1 :: st) h Q ↔ WP 19 16 [.ref x0, .int x1] (st) (sR h y1 1 y0) Q) ∧
  (∀ (x0 : Nat) (x1 : Int32) (st : List Value) (h : AH) (Q : Option Value → AH → Prop), WP 19 16 [.ref x0, .int x1] (st) h Q ↔ WP 19 17 [.ref x0, .int x1] (.ref x0 :: st) h Q) ∧
  (∀ (x0 : Nat) (x1 : Int32) (y0 : Nat) (st : List Value) (h : AH) (Q : Option Value → AH → Prop) (ht : hT h y0 = 3), WP 19 17 [.ref x0, .int x1] (.ref y0 :: st) h Q ↔ WP 19 20 [.ref x0, .int x1] (.ref (hR h y0 1) :: st) h Q) ∧
  (∀ (x0 : Nat) (x1 : Int32) (y0 : Nat) (h : AH) (Q : Option Value → AH → Prop), WP 19 20 [.ref x0, .int x1] ([.ref y0]) h Q ↔ Q (some (.ref y0)) h) :=
  ⟨fun _ _ _ _ _ => WP_s (show ct 19 0 = some (.aload_n 0, 0, []) by decide +kernel) rfl,
  fun _ _ _ _ _ _ ht => WH_gR (show ct 19 1 = some (.getfield 13, 1, [2, 1, 2, 332]) by decide +kernel) ht,
  fun _ _ _ _ _ _ ht => WH_alen (show ct 19 4 = some (.arraylength, 1, []) by decide +kernel) ht,
  fun _ _ _ _ _ => WP_s (show ct 19 5 = some (.iload_n 1, 0, []) by decide +kernel) rfl,
  fun _ _ _ _ _ _ _ => WI_ge (show ct 19 6 = some (.if_icmp .ge 10, 0, [16]) by decide +kernel) (by decide),
  fun _ _ _ _ _ => WP_s (show ct 19 9 = some (.aload_n 0, 0, []) by decide +kernel) rfl,
  fun _ _ _ _ _ => WP_s (show ct 19 10 = some (.iload_n 1, 0, []) by decide +kernel) rfl,
  fun _ _ _ _ _ _ h0 h1 => WH_newa (show ct 19 11 = some (.newarray .int, 1, [100, 209]) by decide +kernel) (by decide) h0 h1,
  fun _ _ _ _ _ _ _ ht => WH_pR (show ct 19 13 = some (.putfield 13, 1, [2, 1, 2, 0, 332]) by decide +kernel) ht,
  fun _ _ _ _ _ => WP_s (show ct 19 16 = some (.aload_n 0, 0, []) by decide +kernel) rfl,
  fun _ _ _ _ _ _ ht => WH_gR (show ct 19 17 = some (.getfield 13, 1, [2, 1, 2, 332]) by decide +kernel) ht,
  fun _ _ _ _ _ => WR_a (show ct 19 20 = some (.areturn, 2, [0]) by decide +kernel)⟩
/-! 20: FewBowls$Desk.thirdRow(I)[I; loop heads [] -/
set_option maxRecDepth 10000 in
theorem w20 : (∀ (x0 : Nat) (x1 : Int32) (st : List Value) (h : AH) (Q : Option Value → AH → Prop), WP 20 0 [.ref x0, .int x1] (st) h Q ↔ WP 20 1 [.ref x0, .int x1] (.ref x0 :: st) h Q) ∧
  (∀ (x0 : Nat) (x1 : Int32) (y0 : Nat) (st : List Value) (h : AH) (Q : Option Value → AH → Prop) (ht : hT h y0 = 3), WP 20 1 [.ref x0, .int x1] (.ref y0 :: st) h Q ↔ WP 20 4 [.ref x0, .int x1] (.ref (hR h y0 2) :: st) h Q) ∧
  (∀ (x0 : Nat) (x1 : Int32) (y0 : Nat) (st : List Value) (h : AH) (Q : Option Value → AH → Prop) (ht : hT h y0 = 100 ∨ hT h y0 = 101 ∨ hT h y0 = 102 ∨ hT h y0 = 103 ∨ hT h y0 = 110), WP 20 4 [.ref x0, .int x1] (.ref y0 :: st) h Q ↔ WP 20 5 [.ref x0, .int x1] (.int (nI (hL h y0)) :: st) h Q) ∧
  (∀ (x0 : Nat) (x1 : Int32) (st : List Value) (h : AH) (Q : Option Value → AH → Prop), WP 20 5 [.ref x0, .int x1] (st) h Q ↔ WP 20 6 [.ref x0, .int x1] (.int x1 :: st) h Q) ∧
  (∀ (x0 : Nat) (x1 : Int32) (y0 : Int32) (y1 : Int32) (st : List Value) (h : AH) (Q : Option Value → AH → Prop), WP 20 6 [.ref x0, .int x1] (.int y0 :: .int y1 :: st) h Q ↔ ((y0 ≤ y1 → WP 20 16 [.ref x0, .int x1] (st) h Q) ∧ (¬ y0 ≤ y1 → WP 20 9 [.ref x0, .int x1] (st) h Q))) ∧
  (∀ (x0 : Nat) (x1 : Int32) (st : List Value) (h : AH) (Q : Option Value → AH → Prop), WP 20 9 [.ref x0, .int x1] (st) h Q ↔ WP 20 10 [.ref x0, .int x1] (.ref x0 :: st) h Q) ∧
  (∀ (x0 : Nat) (x1 : Int32) (st : List Value) (h : AH) (Q : Option Value → AH → Prop), WP 20 10 [.ref x0, .int x1] (st) h Q ↔ WP 20 11 [.ref x0, .int x1] (.int x1 :: st) h Q) ∧
  (∀ (x0 : Nat) (x1 : Int32) (y0 : Int32) (st : List Value) (h : AH) (Q : Option Value → AH → Prop) (h0 : 0 ≤ y0) (h1 : y0.toNatClampNeg ≤ 1048576), WP 20 11 [.ref x0, .int x1] (.int y0 :: st) h Q ↔ WP 20 13 [.ref x0, .int x1] (.ref (hN h) :: st) (nw h 100 y0.toNatClampNeg y0.toNatClampNeg) Q) ∧
  (∀ (x0 : Nat) (x1 : Int32) (y0 : Nat) (y1 : Nat) (st : List Value) (h : AH) (Q : Option Value → AH → Prop) (ht : hT h y1 = 3), WP 20 13 [.ref x0, .int x1] (.ref y0 :: .ref y1 :: st) h Q ↔ WP 20 16 [.ref x0, .int x1] (st) (sR h y1 2 y0) Q) ∧
  (∀ (x0 : Nat) (x1 : Int32) (st : List Value) (h : AH) (Q : Option Value → AH → Prop), WP 20 16 [.ref x0, .int x1] (st) h Q ↔ WP 20 17 [.ref x0, .int x1] (.ref x0 :: st) h Q) ∧
  (∀ (x0 : Nat) (x1 : Int32) (y0 : Nat) (st : List Value) (h : AH) (Q : Option Value → AH → Prop) (ht : hT h y0 = 3), WP 20 17 [.ref x0, .int x1] (.ref y0 :: st) h Q ↔ WP 20 20 [.ref x0, .int x1] (.ref (hR h y0 2) :: st) h Q) ∧
  (∀ (x0 : Nat) (x1 : Int32) (y0 : Nat) (h : AH) (Q : Option Value → AH → Prop), WP 20 20 [.ref x0, .int x1] ([.ref y0]) h Q ↔ Q (some (.ref y0)) h) :=
  ⟨fun _ _ _ _ _ => WP_s (show ct 20 0 = some (.aload_n 0, 0, []) by decide +kernel) rfl,
  fun _ _ _ _ _ _ ht => WH_gR (show ct 20 1 = some (.getfield 16, 1, [2, 2, 2, 333]) by decide +kernel) ht,
  fun _ _ _ _ _ _ ht => WH_alen (show ct 20 4 = some (.arraylength, 1, []) by decide +kernel) ht,
  fun _ _ _ _ _ => WP_s (show ct 20 5 = some (.iload_n 1, 0, []) by decide +kernel) rfl,
  fun _ _ _ _ _ _ _ => WI_ge (show ct 20 6 = some (.if_icmp .ge 10, 0, [16]) by decide +kernel) (by decide),
  fun _ _ _ _ _ => WP_s (show ct 20 9 = some (.aload_n 0, 0, []) by decide +kernel) rfl,
  fun _ _ _ _ _ => WP_s (show ct 20 10 = some (.iload_n 1, 0, []) by decide +kernel) rfl,
  fun _ _ _ _ _ _ h0 h1 => WH_newa (show ct 20 11 = some (.newarray .int, 1, [100, 209]) by decide +kernel) (by decide) h0 h1,
  fun _ _ _ _ _ _ _ ht => WH_pR (show ct 20 13 = some (.putfield 16, 1, [2, 2, 2, 0, 333]) by decide +kernel) ht,
  fun _ _ _ _ _ => WP_s (show ct 20 16 = some (.aload_n 0, 0, []) by decide +kernel) rfl,
  fun _ _ _ _ _ _ ht => WH_gR (show ct 20 17 = some (.getfield 16, 1, [2, 2, 2, 333]) by decide +kernel) ht,
  fun _ _ _ _ _ => WR_a (show ct 20 20 = some (.areturn, 2, [0]) by decide +kernel)⟩
/-! 21: FewBowls$Desk.wideRow(I)[J; loop heads [] -/
set_option maxRecDepth 10000 in
theorem w21 : (∀ (x0 : Nat) (x1 : Int32) (st : List Value) (h : AH) (Q : Option Value → AH → Prop), WP 21 0 [.ref x0, .int x1] (st) h Q ↔ WP 21 1 [.ref x0, .int x1] (.ref x0 :: st) h Q) ∧
  (∀ (x0 : Nat) (x1 : Int32) (y0 : Nat) (st : List Value) (h : AH) (Q : Option Value → AH → Prop) (ht : hT h y0 = 3), WP 21 1 [.ref x0, .int x1] (.ref y0 :: st) h Q ↔ WP 21 4 [.ref x0, .int x1] (.ref (hR h y0 3) :: st) h Q) ∧
  (∀ (x0 : Nat) (x1 : Int32) (y0 : Nat) (st : List Value) (h : AH) (Q : Option Value → AH → Prop) (ht : hT h y0 = 100 ∨ hT h y0 = 101 ∨ hT h y0 = 102 ∨ hT h y0 = 103 ∨ hT h y0 = 110), WP 21 4 [.ref x0, .int x1] (.ref y0 :: st) h Q ↔ WP 21 5 [.ref x0, .int x1] (.int (nI (hL h y0)) :: st) h Q) ∧
  (∀ (x0 : Nat) (x1 : Int32) (st : List Value) (h : AH) (Q : Option Value → AH → Prop), WP 21 5 [.ref x0, .int x1] (st) h Q ↔ WP 21 6 [.ref x0, .int x1] (.int x1 :: st) h Q) ∧
  (∀ (x0 : Nat) (x1 : Int32) (y0 : Int32) (y1 : Int32) (st : List Value) (h : AH) (Q : Option Value → AH → Prop), WP 21 6 [.ref x0, .int x1] (.int y0 :: .int y1 :: st) h Q ↔ ((y0 ≤ y1 → WP 21 16 [.ref x0, .int x1] (st) h Q) ∧ (¬ y0 ≤ y1 → WP 21 9 [.ref x0, .int x1] (st) h Q))) ∧
  (∀ (x0 : Nat) (x1 : Int32) (st : List Value) (h : AH) (Q : Option Value → AH → Prop), WP 21 9 [.ref x0, .int x1] (st) h Q ↔ WP 21 10 [.ref x0, .int x1] (.ref x0 :: st) h Q) ∧
  (∀ (x0 : Nat) (x1 : Int32) (st : List Value) (h : AH) (Q : Option Value → AH → Prop), WP 21 10 [.ref x0, .int x1] (st) h Q ↔ WP 21 11 [.ref x0, .int x1] (.int x1 :: st) h Q) ∧
  (∀ (x0 : Nat) (x1 : Int32) (y0 : Int32) (st : List Value) (h : AH) (Q : Option Value → AH → Prop) (h0 : 0 ≤ y0) (h1 : y0.toNatClampNeg ≤ 1048576), WP 21 11 [.ref x0, .int x1] (.int y0 :: st) h Q ↔ WP 21 13 [.ref x0, .int x1] (.ref (hN h) :: st) (nw h 103 y0.toNatClampNeg y0.toNatClampNeg) Q) ∧
  (∀ (x0 : Nat) (x1 : Int32) (y0 : Nat) (y1 : Nat) (st : List Value) (h : AH) (Q : Option Value → AH → Prop) (ht : hT h y1 = 3), WP 21 13 [.ref x0, .int x1] (.ref y0 :: .ref y1 :: st) h Q ↔ WP 21 16 [.ref x0, .int x1] (st) (sR h y1 3 y0) Q) ∧
  (∀ (x0 : Nat) (x1 : Int32) (st : List Value) (h : AH) (Q : Option Value → AH → Prop), WP 21 16 [.ref x0, .int x1] (st) h Q ↔ WP 21 17 [.ref x0, .int x1] (.ref x0 :: st) h Q) ∧
  (∀ (x0 : Nat) (x1 : Int32) (y0 : Nat) (st : List Value) (h : AH) (Q : Option Value → AH → Prop) (ht : hT h y0 = 3), WP 21 17 [.ref x0, .int x1] (.ref y0 :: st) h Q ↔ WP 21 20 [.ref x0, .int x1] (.ref (hR h y0 3) :: st) h Q) ∧
  (∀ (x0 : Nat) (x1 : Int32) (y0 : Nat) (h : AH) (Q : Option Value → AH → Prop), WP 21 20 [.ref x0, .int x1] ([.ref y0]) h Q ↔ Q (some (.ref y0)) h) :=
  ⟨fun _ _ _ _ _ => WP_s (show ct 21 0 = some (.aload_n 0, 0, []) by decide +kernel) rfl,
  fun _ _ _ _ _ _ ht => WH_gR (show ct 21 1 = some (.getfield 19, 1, [2, 3, 2, 334]) by decide +kernel) ht,
  fun _ _ _ _ _ _ ht => WH_alen (show ct 21 4 = some (.arraylength, 1, []) by decide +kernel) ht,
  fun _ _ _ _ _ => WP_s (show ct 21 5 = some (.iload_n 1, 0, []) by decide +kernel) rfl,
  fun _ _ _ _ _ _ _ => WI_ge (show ct 21 6 = some (.if_icmp .ge 10, 0, [16]) by decide +kernel) (by decide),
  fun _ _ _ _ _ => WP_s (show ct 21 9 = some (.aload_n 0, 0, []) by decide +kernel) rfl,
  fun _ _ _ _ _ => WP_s (show ct 21 10 = some (.iload_n 1, 0, []) by decide +kernel) rfl,
  fun _ _ _ _ _ _ h0 h1 => WH_newa (show ct 21 11 = some (.newarray .long, 1, [103, 344]) by decide +kernel) (by decide) h0 h1,
  fun _ _ _ _ _ _ _ ht => WH_pR (show ct 21 13 = some (.putfield 19, 1, [2, 3, 2, 0, 334]) by decide +kernel) ht,
  fun _ _ _ _ _ => WP_s (show ct 21 16 = some (.aload_n 0, 0, []) by decide +kernel) rfl,
  fun _ _ _ _ _ _ ht => WH_gR (show ct 21 17 = some (.getfield 19, 1, [2, 3, 2, 334]) by decide +kernel) ht,
  fun _ _ _ _ _ => WR_a (show ct 21 20 = some (.areturn, 2, [0]) by decide +kernel)⟩

/-! 218: java/lang/Integer.bitCount(I)I; loop heads [] -/
set_option maxRecDepth 10000 in
theorem w218_a : (∀ (x0 : Int32) (st : List Value) (h : AH) (Q : Option Value → AH → Prop), WP 218 0 [.int x0] (st) h Q ↔ WP 218 1 [.int x0] (.int x0 :: st) h Q) ∧
  (∀ (x0 : Int32) (st : List Value) (h : AH) (Q : Option Value → AH → Prop), WP 218 1 [.int x0] (st) h Q ↔ WP 218 2 [.int x0] (.int x0 :: st) h Q) ∧
  (∀ (x0 : Int32) (st : List Value) (h : AH) (Q : Option Value → AH → Prop), WP 218 2 [.int x0] (st) h Q ↔ WP 218 3 [.int x0] (.int (1) :: st) h Q) ∧
  (∀ (x0 : Int32) (y0 : Int32) (y1 : Int32) (st : List Value) (h : AH) (Q : Option Value → AH → Prop), WP 218 3 [.int x0] (.int y0 :: .int y1 :: st) h Q ↔ WP 218 4 [.int x0] (.int ((y1.toUInt32 >>> (y0.toUInt32 &&& Int32.toUInt32 31)).toInt32) :: st) h Q) ∧
  (∀ (x0 : Int32) (st : List Value) (h : AH) (Q : Option Value → AH → Prop), WP 218 4 [.int x0] (st) h Q ↔ WP 218 7 [.int x0] (.int (nI 1431655765) :: st) h Q) ∧
  (∀ (x0 : Int32) (y0 : Int32) (y1 : Int32) (st : List Value) (h : AH) (Q : Option Value → AH → Prop), WP 218 7 [.int x0] (.int y0 :: .int y1 :: st) h Q ↔ WP 218 8 [.int x0] (.int (y1 &&& y0) :: st) h Q) ∧
  (∀ (x0 : Int32) (y0 : Int32) (y1 : Int32) (st : List Value) (h : AH) (Q : Option Value → AH → Prop), WP 218 8 [.int x0] (.int y0 :: .int y1 :: st) h Q ↔ WP 218 9 [.int x0] (.int (y1 - y0) :: st) h Q) ∧
  (∀ (x0 : Int32) (y0 : Int32) (st : List Value) (h : AH) (Q : Option Value → AH → Prop), WP 218 9 [.int x0] (.int y0 :: st) h Q ↔ WP 218 10 [.int y0] (st) h Q) ∧
  (∀ (x0 : Int32) (st : List Value) (h : AH) (Q : Option Value → AH → Prop), WP 218 10 [.int x0] (st) h Q ↔ WP 218 11 [.int x0] (.int x0 :: st) h Q) ∧
  (∀ (x0 : Int32) (st : List Value) (h : AH) (Q : Option Value → AH → Prop), WP 218 11 [.int x0] (st) h Q ↔ WP 218 14 [.int x0] (.int (nI 858993459) :: st) h Q) ∧
  (∀ (x0 : Int32) (y0 : Int32) (y1 : Int32) (st : List Value) (h : AH) (Q : Option Value → AH → Prop), WP 218 14 [.int x0] (.int y0 :: .int y1 :: st) h Q ↔ WP 218 15 [.int x0] (.int (y1 &&& y0) :: st) h Q) ∧
  (∀ (x0 : Int32) (st : List Value) (h : AH) (Q : Option Value → AH → Prop), WP 218 15 [.int x0] (st) h Q ↔ WP 218 16 [.int x0] (.int x0 :: st) h Q) ∧
  (∀ (x0 : Int32) (st : List Value) (h : AH) (Q : Option Value → AH → Prop), WP 218 16 [.int x0] (st) h Q ↔ WP 218 17 [.int x0] (.int (2) :: st) h Q) ∧
  (∀ (x0 : Int32) (y0 : Int32) (y1 : Int32) (st : List Value) (h : AH) (Q : Option Value → AH → Prop), WP 218 17 [.int x0] (.int y0 :: .int y1 :: st) h Q ↔ WP 218 18 [.int x0] (.int ((y1.toUInt32 >>> (y0.toUInt32 &&& Int32.toUInt32 31)).toInt32) :: st) h Q) ∧
  (∀ (x0 : Int32) (st : List Value) (h : AH) (Q : Option Value → AH → Prop), WP 218 18 [.int x0] (st) h Q ↔ WP 218 21 [.int x0] (.int (nI 858993459) :: st) h Q) ∧
  (∀ (x0 : Int32) (y0 : Int32) (y1 : Int32) (st : List Value) (h : AH) (Q : Option Value → AH → Prop), WP 218 21 [.int x0] (.int y0 :: .int y1 :: st) h Q ↔ WP 218 22 [.int x0] (.int (y1 &&& y0) :: st) h Q) ∧
  (∀ (x0 : Int32) (y0 : Int32) (y1 : Int32) (st : List Value) (h : AH) (Q : Option Value → AH → Prop), WP 218 22 [.int x0] (.int y0 :: .int y1 :: st) h Q ↔ WP 218 23 [.int x0] (.int (y1 + y0) :: st) h Q) ∧
  (∀ (x0 : Int32) (y0 : Int32) (st : List Value) (h : AH) (Q : Option Value → AH → Prop), WP 218 23 [.int x0] (.int y0 :: st) h Q ↔ WP 218 24 [.int y0] (st) h Q) ∧
  (∀ (x0 : Int32) (st : List Value) (h : AH) (Q : Option Value → AH → Prop), WP 218 24 [.int x0] (st) h Q ↔ WP 218 25 [.int x0] (.int x0 :: st) h Q) ∧
  (∀ (x0 : Int32) (st : List Value) (h : AH) (Q : Option Value → AH → Prop), WP 218 25 [.int x0] (st) h Q ↔ WP 218 26 [.int x0] (.int x0 :: st) h Q) ∧
  (∀ (x0 : Int32) (st : List Value) (h : AH) (Q : Option Value → AH → Prop), WP 218 26 [.int x0] (st) h Q ↔ WP 218 27 [.int x0] (.int (4) :: st) h Q) ∧
  (∀ (x0 : Int32) (y0 : Int32) (y1 : Int32) (st : List Value) (h : AH) (Q : Option Value → AH → Prop), WP 218 27 [.int x0] (.int y0 :: .int y1 :: st) h Q ↔ WP 218 28 [.int x0] (.int ((y1.toUInt32 >>> (y0.toUInt32 &&& Int32.toUInt32 31)).toInt32) :: st) h Q) ∧
  (∀ (x0 : Int32) (y0 : Int32) (y1 : Int32) (st : List Value) (h : AH) (Q : Option Value → AH → Prop), WP 218 28 [.int x0] (.int y0 :: .int y1 :: st) h Q ↔ WP 218 29 [.int x0] (.int (y1 + y0) :: st) h Q) ∧
  (∀ (x0 : Int32) (st : List Value) (h : AH) (Q : Option Value → AH → Prop), WP 218 29 [.int x0] (st) h Q ↔ WP 218 32 [.int x0] (.int (nI 252645135) :: st) h Q) ∧
  (∀ (x0 : Int32) (y0 : Int32) (y1 : Int32) (st : List Value) (h : AH) (Q : Option Value → AH → Prop), WP 218 32 [.int x0] (.int y0 :: .int y1 :: st) h Q ↔ WP 218 33 [.int x0] (.int (y1 &&& y0) :: st) h Q) ∧
  (∀ (x0 : Int32) (y0 : Int32) (st : List Value) (h : AH) (Q : Option Value → AH → Prop), WP 218 33 [.int x0] (.int y0 :: st) h Q ↔ WP 218 34 [.int y0] (st) h Q) ∧
  (∀ (x0 : Int32) (st : List Value) (h : AH) (Q : Option Value → AH → Prop), WP 218 34 [.int x0] (st) h Q ↔ WP 218 35 [.int x0] (.int x0 :: st) h Q) ∧
  (∀ (x0 : Int32) (st : List Value) (h : AH) (Q : Option Value → AH → Prop), WP 218 35 [.int x0] (st) h Q ↔ WP 218 36 [.int x0] (.int x0 :: st) h Q) ∧
  (∀ (x0 : Int32) (st : List Value) (h : AH) (Q : Option Value → AH → Prop), WP 218 36 [.int x0] (st) h Q ↔ WP 218 38 [.int x0] (.int (8) :: st) h Q) ∧
  (∀ (x0 : Int32) (y0 : Int32) (y1 : Int32) (st : List Value) (h : AH) (Q : Option Value → AH → Prop), WP 218 38 [.int x0] (.int y0 :: .int y1 :: st) h Q ↔ WP 218 39 [.int x0] (.int ((y1.toUInt32 >>> (y0.toUInt32 &&& Int32.toUInt32 31)).toInt32) :: st) h Q) ∧
  (∀ (x0 : Int32) (y0 : Int32) (y1 : Int32) (st : List Value) (h : AH) (Q : Option Value → AH → Prop), WP 218 39 [.int x0] (.int y0 :: .int y1 :: st) h Q ↔ WP 218 40 [.int x0] (.int (y1 + y0) :: st) h Q) ∧
  (∀ (x0 : Int32) (y0 : Int32) (st : List Value) (h : AH) (Q : Option Value → AH → Prop), WP 218 40 [.int x0] (.int y0 :: st) h Q ↔ WP 218 41 [.int y0] (st) h Q) ∧
  (∀ (x0 : Int32) (st : List Value) (h : AH) (Q : Option Value → AH → Prop), WP 218 41 [.int x0] (st) h Q ↔ WP 218 42 [.int x0] (.int x0 :: st) h Q) ∧
  (∀ (x0 : Int32) (st : List Value) (h : AH) (Q : Option Value → AH → Prop), WP 218 42 [.int x0] (st) h Q ↔ WP 218 43 [.int x0] (.int x0 :: st) h Q) ∧
  (∀ (x0 : Int32) (st : List Value) (h : AH) (Q : Option Value → AH → Prop), WP 218 43 [.int x0] (st) h Q ↔ WP 218 45 [.int x0] (.int (16) :: st) h Q) ∧
  (∀ (x0 : Int32) (y0 : Int32) (y1 : Int32) (st : List Value) (h : AH) (Q : Option Value → AH → Prop), WP 218 45 [.int x0] (.int y0 :: .int y1 :: st) h Q ↔ WP 218 46 [.int x0] (.int ((y1.toUInt32 >>> (y0.toUInt32 &&& Int32.toUInt32 31)).toInt32) :: st) h Q) ∧
  (∀ (x0 : Int32) (y0 : Int32) (y1 : Int32) (st : List Value) (h : AH) (Q : Option Value → AH → Prop), WP 218 46 [.int x0] (.int y0 :: .int y1 :: st) h Q ↔ WP 218 47 [.int x0] (.int (y1 + y0) :: st) h Q) ∧
  (∀ (x0 : Int32) (y0 : Int32) (st : List Value) (h : AH) (Q : Option Value → AH → Prop), WP 218 47 [.int x0] (.int y0 :: st) h Q ↔ WP 218 48 [.int y0] (st) h Q) ∧
  (∀ (x0 : Int32) (st : List Value) (h : AH) (Q : Option Value → AH → Prop), WP 218 48 [.int x0] (st) h Q ↔ WP 218 49 [.int x0] (.int x0 :: st) h Q) ∧
  (∀ (x0 : Int32) (st : List Value) (h : AH) (Q : Option Value → AH → Prop), WP 218 49 [.int x0] (st) h Q ↔ WP 218 51 [.int x0] (.int (63) :: st) h Q) :=
  ⟨fun _ _ _ _ => WP_s (show ct 218 0 = some (.iload_n 0, 0, []) by decide +kernel) rfl,
  fun _ _ _ _ => WP_s (show ct 218 1 = some (.iload_n 0, 0, []) by decide +kernel) rfl,
  fun _ _ _ _ => WP_s (show ct 218 2 = some (.iconst 1, 0, []) by decide +kernel) rfl,
  fun _ _ _ _ _ _ => WP_s (show ct 218 3 = some (.iushr, 0, []) by decide +kernel) rfl,
  fun _ _ _ _ => WP_s (show ct 218 4 = some (.ldc_w 265, 0, [1431655765, 701]) by decide +kernel) rfl,
  fun _ _ _ _ _ _ => WP_s (show ct 218 7 = some (.iand, 0, []) by decide +kernel) rfl,
  fun _ _ _ _ _ _ => WP_s (show ct 218 8 = some (.isub, 0, []) by decide +kernel) rfl,
  fun _ _ _ _ _ => WP_s (show ct 218 9 = some (.istore_n 0, 0, []) by decide +kernel) rfl,
  fun _ _ _ _ => WP_s (show ct 218 10 = some (.iload_n 0, 0, []) by decide +kernel) rfl,
  fun _ _ _ _ => WP_s (show ct 218 11 = some (.ldc_w 266, 0, [858993459, 702]) by decide +kernel) rfl,
  fun _ _ _ _ _ _ => WP_s (show ct 218 14 = some (.iand, 0, []) by decide +kernel) rfl,
  fun _ _ _ _ => WP_s (show ct 218 15 = some (.iload_n 0, 0, []) by decide +kernel) rfl,
  fun _ _ _ _ => WP_s (show ct 218 16 = some (.iconst 2, 0, []) by decide +kernel) rfl,
  fun _ _ _ _ _ _ => WP_s (show ct 218 17 = some (.iushr, 0, []) by decide +kernel) rfl,
  fun _ _ _ _ => WP_s (show ct 218 18 = some (.ldc_w 266, 0, [858993459, 702]) by decide +kernel) rfl,
  fun _ _ _ _ _ _ => WP_s (show ct 218 21 = some (.iand, 0, []) by decide +kernel) rfl,
  fun _ _ _ _ _ _ => WP_s (show ct 218 22 = some (.iadd, 0, []) by decide +kernel) rfl,
  fun _ _ _ _ _ => WP_s (show ct 218 23 = some (.istore_n 0, 0, []) by decide +kernel) rfl,
  fun _ _ _ _ => WP_s (show ct 218 24 = some (.iload_n 0, 0, []) by decide +kernel) rfl,
  fun _ _ _ _ => WP_s (show ct 218 25 = some (.iload_n 0, 0, []) by decide +kernel) rfl,
  fun _ _ _ _ => WP_s (show ct 218 26 = some (.iconst 4, 0, []) by decide +kernel) rfl,
  fun _ _ _ _ _ _ => WP_s (show ct 218 27 = some (.iushr, 0, []) by decide +kernel) rfl,
  fun _ _ _ _ _ _ => WP_s (show ct 218 28 = some (.iadd, 0, []) by decide +kernel) rfl,
  fun _ _ _ _ => WP_s (show ct 218 29 = some (.ldc_w 267, 0, [252645135, 703]) by decide +kernel) rfl,
  fun _ _ _ _ _ _ => WP_s (show ct 218 32 = some (.iand, 0, []) by decide +kernel) rfl,
  fun _ _ _ _ _ => WP_s (show ct 218 33 = some (.istore_n 0, 0, []) by decide +kernel) rfl,
  fun _ _ _ _ => WP_s (show ct 218 34 = some (.iload_n 0, 0, []) by decide +kernel) rfl,
  fun _ _ _ _ => WP_s (show ct 218 35 = some (.iload_n 0, 0, []) by decide +kernel) rfl,
  fun _ _ _ _ => WP_s (show ct 218 36 = some (.bipush 8, 0, []) by decide +kernel) rfl,
  fun _ _ _ _ _ _ => WP_s (show ct 218 38 = some (.iushr, 0, []) by decide +kernel) rfl,
  fun _ _ _ _ _ _ => WP_s (show ct 218 39 = some (.iadd, 0, []) by decide +kernel) rfl,
  fun _ _ _ _ _ => WP_s (show ct 218 40 = some (.istore_n 0, 0, []) by decide +kernel) rfl,
  fun _ _ _ _ => WP_s (show ct 218 41 = some (.iload_n 0, 0, []) by decide +kernel) rfl,
  fun _ _ _ _ => WP_s (show ct 218 42 = some (.iload_n 0, 0, []) by decide +kernel) rfl,
  fun _ _ _ _ => WP_s (show ct 218 43 = some (.bipush 16, 0, []) by decide +kernel) rfl,
  fun _ _ _ _ _ _ => WP_s (show ct 218 45 = some (.iushr, 0, []) by decide +kernel) rfl,
  fun _ _ _ _ _ _ => WP_s (show ct 218 46 = some (.iadd, 0, []) by decide +kernel) rfl,
  fun _ _ _ _ _ => WP_s (show ct 218 47 = some (.istore_n 0, 0, []) by decide +kernel) rfl,
  fun _ _ _ _ => WP_s (show ct 218 48 = some (.iload_n 0, 0, []) by decide +kernel) rfl,
  fun _ _ _ _ => WP_s (show ct 218 49 = some (.bipush 63, 0, []) by decide +kernel) rfl⟩
set_option maxRecDepth 10000 in
theorem w218_b : (∀ (x0 : Int32) (y0 : Int32) (y1 : Int32) (st : List Value) (h : AH) (Q : Option Value → AH → Prop), WP 218 51 [.int x0] (.int y0 :: .int y1 :: st) h Q ↔ WP 218 52 [.int x0] (.int (y1 &&& y0) :: st) h Q) ∧
  (∀ (x0 : Int32) (y0 : Int32) (h : AH) (Q : Option Value → AH → Prop), WP 218 52 [.int x0] ([.int y0]) h Q ↔ Q (some (.int y0)) h) :=
  ⟨fun _ _ _ _ _ _ => WP_s (show ct 218 51 = some (.iand, 0, []) by decide +kernel) rfl,
  fun _ _ _ _ => WR_i (show ct 218 52 = some (.ireturn, 2, [0]) by decide +kernel)⟩
/-- all of 218 -/
def w218_n : Nat := 2

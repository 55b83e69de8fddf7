theorem mL0 : mL 0 = 1 := by decide +kernel
theorem we0 : ∀ (x0 : Nat) (h : AH) (Q : Option Value → AH → Prop), WPM 0 [.ref x0] h Q ↔ WP 0 0 [.ref x0] [] h Q := fun _ _ _ => WPM_in (by decide) (by rw [mL0]; exact Nat.le_of_ble_eq_true rfl) (by rw [mL0]; rfl)
theorem mL1 : mL 1 = 2 := by decide +kernel
theorem we1 : ∀ (x0 : Int32) (x1 : Int32) (h : AH) (Q : Option Value → AH → Prop), WPM 1 [.int x0, .int x1] h Q ↔ WP 1 0 [.int x0, .int x1] [] h Q := fun _ _ _ _ => WPM_in (by decide) (by rw [mL1]; exact Nat.le_of_ble_eq_true rfl) (by rw [mL1]; rfl)
theorem mL2 : mL 2 = 7 := by decide +kernel
theorem we2 : ∀ (x0 : Nat) (x1 : Nat) (x2 : Int32) (x3 : Int32) (h : AH) (Q : Option Value → AH → Prop), WPM 2 [.ref x0, .ref x1, .int x2, .int x3] h Q ↔ WP 2 0 [.ref x0, .ref x1, .int x2, .int x3, .retAddr 0, .retAddr 0, .retAddr 0] [] h Q := fun _ _ _ _ _ _ => WPM_in (by decide) (by rw [mL2]; exact Nat.le_of_ble_eq_true rfl) (by rw [mL2]; rfl)
theorem mL3 : mL 3 = 3 := by decide +kernel
theorem we3 : ∀ (x0 : Nat) (x1 : Int32) (x2 : Int32) (h : AH) (Q : Option Value → AH → Prop), WPM 3 [.ref x0, .int x1, .int x2] h Q ↔ WP 3 0 [.ref x0, .int x1, .int x2] [] h Q := fun _ _ _ _ _ => WPM_in (by decide) (by rw [mL3]; exact Nat.le_of_ble_eq_true rfl) (by rw [mL3]; rfl)
theorem mL4 : mL 4 = 4 := by decide +kernel
theorem we4 : ∀ (x0 : Nat) (x1 : Int32) (x2 : Int32) (x3 : Int32) (h : AH) (Q : Option Value → AH → Prop), WPM 4 [.ref x0, .int x1, .int x2, .int x3] h Q ↔ WP 4 0 [.ref x0, .int x1, .int x2, .int x3] [] h Q := fun _ _ _ _ _ _ => WPM_in (by decide) (by rw [mL4]; exact Nat.le_of_ble_eq_true rfl) (by rw [mL4]; rfl)
theorem mL5 : mL 5 = 6 := by decide +kernel
theorem we5 : ∀ (x0 : Nat) (x1 : Int32) (x2 : Int32) (x3 : Int32) (x4 : Int32) (x5 : Int32) (h : AH) (Q : Option Value → AH → Prop), WPM 5 [.ref x0, .int x1, .int x2, .int x3, .int x4, .int x5] h Q ↔ WP 5 0 [.ref x0, .int x1, .int x2, .int x3, .int x4, .int x5] [] h Q := fun _ _ _ _ _ _ _ _ => WPM_in (by decide) (by rw [mL5]; exact Nat.le_of_ble_eq_true rfl) (by rw [mL5]; rfl)
theorem mL6 : mL 6 = 3 := by decide +kernel
theorem we6 : ∀ (x0 : Nat) (x1 : Int32) (h : AH) (Q : Option Value → AH → Prop), WPM 6 [.ref x0, .int x1] h Q ↔ WP 6 0 [.ref x0, .int x1, .retAddr 0] [] h Q := fun _ _ _ _ => WPM_in (by decide) (by rw [mL6]; exact Nat.le_of_ble_eq_true rfl) (by rw [mL6]; rfl)
theorem mL7 : mL 7 = 5 := by decide +kernel
theorem we7 : ∀ (x0 : Nat) (x1 : Int32) (x2 : Int32) (x3 : Int32) (h : AH) (Q : Option Value → AH → Prop), WPM 7 [.ref x0, .int x1, .int x2, .int x3] h Q ↔ WP 7 0 [.ref x0, .int x1, .int x2, .int x3, .retAddr 0] [] h Q := fun _ _ _ _ _ _ => WPM_in (by decide) (by rw [mL7]; exact Nat.le_of_ble_eq_true rfl) (by rw [mL7]; rfl)
theorem mL8 : mL 8 = 5 := by decide +kernel
theorem we8 : ∀ (x0 : Nat) (x1 : Int32) (x2 : Int32) (x3 : Int32) (h : AH) (Q : Option Value → AH → Prop), WPM 8 [.ref x0, .int x1, .int x2, .int x3] h Q ↔ WP 8 0 [.ref x0, .int x1, .int x2, .int x3, .retAddr 0] [] h Q := fun _ _ _ _ _ _ => WPM_in (by decide) (by rw [mL8]; exact Nat.le_of_ble_eq_true rfl) (by rw [mL8]; rfl)
theorem mL9 : mL 9 = 3 := by decide +kernel
theorem we9 : ∀ (x0 : Nat) (x1 : Nat) (x2 : Nat) (h : AH) (Q : Option Value → AH → Prop), WPM 9 [.ref x0, .ref x1, .ref x2] h Q ↔ WP 9 0 [.ref x0, .ref x1, .ref x2] [] h Q := fun _ _ _ _ _ => WPM_in (by decide) (by rw [mL9]; exact Nat.le_of_ble_eq_true rfl) (by rw [mL9]; rfl)
theorem mL10 : mL 10 = 8 := by decide +kernel
theorem we10 : ∀ (x0 : Nat) (x1 : Nat) (x2 : Int32) (x3 : Int32) (x4 : Int32) (h : AH) (Q : Option Value → AH → Prop), WPM 10 [.ref x0, .ref x1, .int x2, .int x3, .int x4] h Q ↔ WP 10 0 [.ref x0, .ref x1, .int x2, .int x3, .int x4, .retAddr 0, .retAddr 0, .retAddr 0] [] h Q := fun _ _ _ _ _ _ _ => WPM_in (by decide) (by rw [mL10]; exact Nat.le_of_ble_eq_true rfl) (by rw [mL10]; rfl)
theorem mL11 : mL 11 = 3 := by decide +kernel
theorem we11 : ∀ (x0 : Nat) (x1 : Int32) (h : AH) (Q : Option Value → AH → Prop), WPM 11 [.ref x0, .int x1] h Q ↔ WP 11 0 [.ref x0, .int x1, .retAddr 0] [] h Q := fun _ _ _ _ => WPM_in (by decide) (by rw [mL11]; exact Nat.le_of_ble_eq_true rfl) (by rw [mL11]; rfl)
theorem mL12 : mL 12 = 8 := by decide +kernel
theorem we12 : ∀ (x0 : Nat) (x1 : Nat) (x2 : Int32) (x3 : Int32) (x4 : Int32) (h : AH) (Q : Option Value → AH → Prop), WPM 12 [.ref x0, .ref x1, .int x2, .int x3, .int x4] h Q ↔ WP 12 0 [.ref x0, .ref x1, .int x2, .int x3, .int x4, .retAddr 0, .retAddr 0, .retAddr 0] [] h Q := fun _ _ _ _ _ _ _ => WPM_in (by decide) (by rw [mL12]; exact Nat.le_of_ble_eq_true rfl) (by rw [mL12]; rfl)
theorem mL13 : mL 13 = 3 := by decide +kernel
theorem we13 : ∀ (x0 : Nat) (x1 : Int32) (x2 : Int32) (h : AH) (Q : Option Value → AH → Prop), WPM 13 [.ref x0, .int x1, .int x2] h Q ↔ WP 13 0 [.ref x0, .int x1, .int x2] [] h Q := fun _ _ _ _ _ => WPM_in (by decide) (by rw [mL13]; exact Nat.le_of_ble_eq_true rfl) (by rw [mL13]; rfl)
theorem mL14 : mL 14 = 4 := by decide +kernel
theorem we14 : ∀ (x0 : Nat) (h : AH) (Q : Option Value → AH → Prop), WPM 14 [.ref x0] h Q ↔ WP 14 0 [.ref x0, .retAddr 0, .retAddr 0, .retAddr 0] [] h Q := fun _ _ _ => WPM_in (by decide) (by rw [mL14]; exact Nat.le_of_ble_eq_true rfl) (by rw [mL14]; rfl)
theorem mL15 : mL 15 = 4 := by decide +kernel
theorem we15 : ∀ (x0 : Nat) (x1 : Int32) (x2 : Int32) (h : AH) (Q : Option Value → AH → Prop), WPM 15 [.ref x0, .int x1, .int x2] h Q ↔ WP 15 0 [.ref x0, .int x1, .int x2, .retAddr 0] [] h Q := fun _ _ _ _ _ => WPM_in (by decide) (by rw [mL15]; exact Nat.le_of_ble_eq_true rfl) (by rw [mL15]; rfl)
theorem mL16 : mL 16 = 2 := by decide +kernel
theorem we16 : ∀ (x0 : Nat) (x1 : Int32) (h : AH) (Q : Option Value → AH → Prop), WPM 16 [.ref x0, .int x1] h Q ↔ WP 16 0 [.ref x0, .int x1] [] h Q := fun _ _ _ _ => WPM_in (by decide) (by rw [mL16]; exact Nat.le_of_ble_eq_true rfl) (by rw [mL16]; rfl)
theorem mL17 : mL 17 = 1 := by decide +kernel
theorem we17 : ∀ (x0 : Nat) (h : AH) (Q : Option Value → AH → Prop), WPM 17 [.ref x0] h Q ↔ WP 17 0 [.ref x0] [] h Q := fun _ _ _ => WPM_in (by decide) (by rw [mL17]; exact Nat.le_of_ble_eq_true rfl) (by rw [mL17]; rfl)
theorem mL18 : mL 18 = 2 := by decide +kernel
theorem we18 : ∀ (x0 : Nat) (x1 : Int32) (h : AH) (Q : Option Value → AH → Prop), WPM 18 [.ref x0, .int x1] h Q ↔ WP 18 0 [.ref x0, .int x1] [] h Q := fun _ _ _ _ => WPM_in (by decide) (by rw [mL18]; exact Nat.le_of_ble_eq_true rfl) (by rw [mL18]; rfl)
theorem mL19 : mL 19 = 2 := by decide +kernel
theorem we19 : ∀ (x0 : Nat) (x1 : Int32) (h : AH) (Q : Option Value → AH → Prop), WPM 19 [.ref x0, .int x1] h Q ↔ WP 19 0 [.ref x0, .int x1] [] h Q := fun _ _ _ _ => WPM_in (by decide) (by rw [mL19]; exact Nat.le_of_ble_eq_true rfl) (by rw [mL19]; rfl)
theorem mL20 : mL 20 = 2 := by decide +kernel
theorem we20 : ∀ (x0 : Nat) (x1 : Int32) (h : AH) (Q : Option Value → AH → Prop), WPM 20 [.ref x0, .int x1] h Q ↔ WP 20 0 [.ref x0, .int x1] [] h Q := fun _ _ _ _ => WPM_in (by decide) (by rw [mL20]; exact Nat.le_of_ble_eq_true rfl) (by rw [mL20]; rfl)
theorem mL21 : mL 21 = 2 := by decide +kernel
theorem we21 : ∀ (x0 : Nat) (x1 : Int32) (h : AH) (Q : Option Value → AH → Prop), WPM 21 [.ref x0, .int x1] h Q ↔ WP 21 0 [.ref x0, .int x1] [] h Q := fun _ _ _ _ => WPM_in (by decide) (by rw [mL21]; exact Nat.le_of_ble_eq_true rfl) (by rw [mL21]; rfl)
theorem mL22 : mL 22 = 1 := by decide +kernel
theorem we22 : ∀ (x0 : Nat) (h : AH) (Q : Option Value → AH → Prop), WPM 22 [.ref x0] h Q ↔ WP 22 0 [.ref x0] [] h Q := fun _ _ _ => WPM_in (by decide) (by rw [mL22]; exact Nat.le_of_ble_eq_true rfl) (by rw [mL22]; rfl)
theorem mL23 : mL 23 = 1 := by decide +kernel
theorem we23 : ∀ (x0 : Nat) (h : AH) (Q : Option Value → AH → Prop), WPM 23 [.ref x0] h Q ↔ WP 23 0 [.ref x0] [] h Q := fun _ _ _ => WPM_in (by decide) (by rw [mL23]; exact Nat.le_of_ble_eq_true rfl) (by rw [mL23]; rfl)
theorem mL24 : mL 24 = 2 := by decide +kernel
theorem we24 : ∀ (x0 : Nat) (x1 : Int32) (h : AH) (Q : Option Value → AH → Prop), WPM 24 [.ref x0, .int x1] h Q ↔ WP 24 0 [.ref x0, .int x1] [] h Q := fun _ _ _ _ => WPM_in (by decide) (by rw [mL24]; exact Nat.le_of_ble_eq_true rfl) (by rw [mL24]; rfl)
theorem mL25 : mL 25 = 1 := by decide +kernel
theorem we25 : ∀ (x0 : Nat) (h : AH) (Q : Option Value → AH → Prop), WPM 25 [.ref x0] h Q ↔ WP 25 0 [.ref x0] [] h Q := fun _ _ _ => WPM_in (by decide) (by rw [mL25]; exact Nat.le_of_ble_eq_true rfl) (by rw [mL25]; rfl)
theorem mL26 : mL 26 = 3 := by decide +kernel
theorem we26 : ∀ (x0 : Nat) (x1 : Int32) (h : AH) (Q : Option Value → AH → Prop), WPM 26 [.ref x0, .int x1] h Q ↔ WP 26 0 [.ref x0, .int x1, .retAddr 0] [] h Q := fun _ _ _ _ => WPM_in (by decide) (by rw [mL26]; exact Nat.le_of_ble_eq_true rfl) (by rw [mL26]; rfl)
theorem mL27 : mL 27 = 4 := by decide +kernel
theorem we27 : ∀ (x0 : Nat) (x1 : Int32) (x2 : Int32) (x3 : Int32) (h : AH) (Q : Option Value → AH → Prop), WPM 27 [.ref x0, .int x1, .int x2, .int x3] h Q ↔ WP 27 0 [.ref x0, .int x1, .int x2, .int x3] [] h Q := fun _ _ _ _ _ _ => WPM_in (by decide) (by rw [mL27]; exact Nat.le_of_ble_eq_true rfl) (by rw [mL27]; rfl)
theorem mL28 : mL 28 = 2 := by decide +kernel
theorem we28 : ∀ (x0 : Nat) (h : AH) (Q : Option Value → AH → Prop), WPM 28 [.ref x0] h Q ↔ WP 28 0 [.ref x0, .retAddr 0] [] h Q := fun _ _ _ => WPM_in (by decide) (by rw [mL28]; exact Nat.le_of_ble_eq_true rfl) (by rw [mL28]; rfl)
theorem mL29 : mL 29 = 3 := by decide +kernel
theorem we29 : ∀ (x0 : Nat) (x1 : Int32) (h : AH) (Q : Option Value → AH → Prop), WPM 29 [.ref x0, .int x1] h Q ↔ WP 29 0 [.ref x0, .int x1, .retAddr 0] [] h Q := fun _ _ _ _ => WPM_in (by decide) (by rw [mL29]; exact Nat.le_of_ble_eq_true rfl) (by rw [mL29]; rfl)
theorem mL30 : mL 30 = 7 := by decide +kernel
theorem we30 : ∀ (x0 : Nat) (x1 : Int32) (x2 : Nat) (x3 : Int32) (h : AH) (Q : Option Value → AH → Prop), WPM 30 [.ref x0, .int x1, .ref x2, .int x3] h Q ↔ WP 30 0 [.ref x0, .int x1, .ref x2, .int x3, .retAddr 0, .retAddr 0, .retAddr 0] [] h Q := fun _ _ _ _ _ _ => WPM_in (by decide) (by rw [mL30]; exact Nat.le_of_ble_eq_true rfl) (by rw [mL30]; rfl)
theorem mL31 : mL 31 = 4 := by decide +kernel
theorem we31 : ∀ (x0 : Nat) (x1 : Int32) (x2 : Int32) (h : AH) (Q : Option Value → AH → Prop), WPM 31 [.ref x0, .int x1, .int x2] h Q ↔ WP 31 0 [.ref x0, .int x1, .int x2, .retAddr 0] [] h Q := fun _ _ _ _ _ => WPM_in (by decide) (by rw [mL31]; exact Nat.le_of_ble_eq_true rfl) (by rw [mL31]; rfl)
theorem mL32 : mL 32 = 3 := by decide +kernel
theorem we32 : ∀ (x0 : Nat) (h : AH) (Q : Option Value → AH → Prop), WPM 32 [.ref x0] h Q ↔ WP 32 0 [.ref x0, .retAddr 0, .retAddr 0] [] h Q := fun _ _ _ => WPM_in (by decide) (by rw [mL32]; exact Nat.le_of_ble_eq_true rfl) (by rw [mL32]; rfl)
theorem mL33 : mL 33 = 2 := by decide +kernel
theorem we33 : ∀ (x0 : Nat) (x1 : Nat) (h : AH) (Q : Option Value → AH → Prop), WPM 33 [.ref x0, .ref x1] h Q ↔ WP 33 0 [.ref x0, .ref x1] [] h Q := fun _ _ _ _ => WPM_in (by decide) (by rw [mL33]; exact Nat.le_of_ble_eq_true rfl) (by rw [mL33]; rfl)
theorem mL34 : mL 34 = 5 := by decide +kernel
theorem we34 : ∀ (x0 : Nat) (x1 : Nat) (x2 : Int32) (h : AH) (Q : Option Value → AH → Prop), WPM 34 [.ref x0, .ref x1, .int x2] h Q ↔ WP 34 0 [.ref x0, .ref x1, .int x2, .retAddr 0, .retAddr 0] [] h Q := fun _ _ _ _ _ => WPM_in (by decide) (by rw [mL34]; exact Nat.le_of_ble_eq_true rfl) (by rw [mL34]; rfl)
theorem mL35 : mL 35 = 3 := by decide +kernel
theorem we35 : ∀ (x0 : Nat) (x1 : Int32) (h : AH) (Q : Option Value → AH → Prop), WPM 35 [.ref x0, .int x1] h Q ↔ WP 35 0 [.ref x0, .int x1, .retAddr 0] [] h Q := fun _ _ _ _ => WPM_in (by decide) (by rw [mL35]; exact Nat.le_of_ble_eq_true rfl) (by rw [mL35]; rfl)
theorem mL36 : mL 36 = 6 := by decide +kernel
theorem we36 : ∀ (x0 : Nat) (x1 : Nat) (x2 : Int32) (x3 : Int32) (h : AH) (Q : Option Value → AH → Prop), WPM 36 [.ref x0, .ref x1, .int x2, .int x3] h Q ↔ WP 36 0 [.ref x0, .ref x1, .int x2, .int x3, .retAddr 0, .retAddr 0] [] h Q := fun _ _ _ _ _ _ => WPM_in (by decide) (by rw [mL36]; exact Nat.le_of_ble_eq_true rfl) (by rw [mL36]; rfl)
theorem mL37 : mL 37 = 8 := by decide +kernel
theorem we37 : ∀ (x0 : Nat) (x1 : Nat) (x2 : Int32) (x3 : Int32) (x4 : Int32) (h : AH) (Q : Option Value → AH → Prop), WPM 37 [.ref x0, .ref x1, .int x2, .int x3, .int x4] h Q ↔ WP 37 0 [.ref x0, .ref x1, .int x2, .int x3, .int x4, .retAddr 0, .retAddr 0, .retAddr 0] [] h Q := fun _ _ _ _ _ _ _ => WPM_in (by decide) (by rw [mL37]; exact Nat.le_of_ble_eq_true rfl) (by rw [mL37]; rfl)
theorem mL38 : mL 38 = 7 := by decide +kernel
theorem we38 : ∀ (x0 : Nat) (x1 : Nat) (x2 : Int32) (x3 : Int32) (h : AH) (Q : Option Value → AH → Prop), WPM 38 [.ref x0, .ref x1, .int x2, .int x3] h Q ↔ WP 38 0 [.ref x0, .ref x1, .int x2, .int x3, .retAddr 0, .retAddr 0, .retAddr 0] [] h Q := fun _ _ _ _ _ _ => WPM_in (by decide) (by rw [mL38]; exact Nat.le_of_ble_eq_true rfl) (by rw [mL38]; rfl)
theorem mL39 : mL 39 = 6 := by decide +kernel
theorem we39 : ∀ (x0 : Nat) (x1 : Nat) (x2 : Int32) (x3 : Int32) (x4 : Int32) (h : AH) (Q : Option Value → AH → Prop), WPM 39 [.ref x0, .ref x1, .int x2, .int x3, .int x4] h Q ↔ WP 39 0 [.ref x0, .ref x1, .int x2, .int x3, .int x4, .retAddr 0] [] h Q := fun _ _ _ _ _ _ _ => WPM_in (by decide) (by rw [mL39]; exact Nat.le_of_ble_eq_true rfl) (by rw [mL39]; rfl)
theorem mL40 : mL 40 = 9 := by decide +kernel
theorem we40 : ∀ (x0 : Nat) (x1 : Nat) (x2 : Int32) (x3 : Nat) (x4 : Int32) (h : AH) (Q : Option Value → AH → Prop), WPM 40 [.ref x0, .ref x1, .int x2, .ref x3, .int x4] h Q ↔ WP 40 0 [.ref x0, .ref x1, .int x2, .ref x3, .int x4, .retAddr 0, .retAddr 0, .retAddr 0, .retAddr 0] [] h Q := fun _ _ _ _ _ _ _ => WPM_in (by decide) (by rw [mL40]; exact Nat.le_of_ble_eq_true rfl) (by rw [mL40]; rfl)
theorem mL41 : mL 41 = 3 := by decide +kernel
theorem we41 : ∀ (x0 : Nat) (x1 : Int32) (x2 : Int32) (h : AH) (Q : Option Value → AH → Prop), WPM 41 [.ref x0, .int x1, .int x2] h Q ↔ WP 41 0 [.ref x0, .int x1, .int x2] [] h Q := fun _ _ _ _ _ => WPM_in (by decide) (by rw [mL41]; exact Nat.le_of_ble_eq_true rfl) (by rw [mL41]; rfl)
theorem mL42 : mL 42 = 5 := by decide +kernel
theorem we42 : ∀ (x0 : Nat) (x1 : Nat) (x2 : Int32) (h : AH) (Q : Option Value → AH → Prop), WPM 42 [.ref x0, .ref x1, .int x2] h Q ↔ WP 42 0 [.ref x0, .ref x1, .int x2, .retAddr 0, .retAddr 0] [] h Q := fun _ _ _ _ _ => WPM_in (by decide) (by rw [mL42]; exact Nat.le_of_ble_eq_true rfl) (by rw [mL42]; rfl)
theorem mL43 : mL 43 = 4 := by decide +kernel
theorem we43 : ∀ (x0 : Nat) (x1 : Nat) (x2 : Int32) (x3 : Int32) (h : AH) (Q : Option Value → AH → Prop), WPM 43 [.ref x0, .ref x1, .int x2, .int x3] h Q ↔ WP 43 0 [.ref x0, .ref x1, .int x2, .int x3] [] h Q := fun _ _ _ _ _ _ => WPM_in (by decide) (by rw [mL43]; exact Nat.le_of_ble_eq_true rfl) (by rw [mL43]; rfl)
theorem mL44 : mL 44 = 3 := by decide +kernel
theorem we44 : ∀ (x0 : Nat) (x1 : Nat) (x2 : Nat) (h : AH) (Q : Option Value → AH → Prop), WPM 44 [.ref x0, .ref x1, .ref x2] h Q ↔ WP 44 0 [.ref x0, .ref x1, .ref x2] [] h Q := fun _ _ _ _ _ => WPM_in (by decide) (by rw [mL44]; exact Nat.le_of_ble_eq_true rfl) (by rw [mL44]; rfl)
theorem mL45 : mL 45 = 4 := by decide +kernel
theorem we45 : ∀ (x0 : Nat) (x1 : Nat) (x2 : Int32) (h : AH) (Q : Option Value → AH → Prop), WPM 45 [.ref x0, .ref x1, .int x2] h Q ↔ WP 45 0 [.ref x0, .ref x1, .int x2, .retAddr 0] [] h Q := fun _ _ _ _ _ => WPM_in (by decide) (by rw [mL45]; exact Nat.le_of_ble_eq_true rfl) (by rw [mL45]; rfl)
theorem mL46 : mL 46 = 8 := by decide +kernel
theorem we46 : ∀ (x0 : Nat) (x1 : Nat) (x2 : Int32) (x3 : Int32) (h : AH) (Q : Option Value → AH → Prop), WPM 46 [.ref x0, .ref x1, .int x2, .int x3] h Q ↔ WP 46 0 [.ref x0, .ref x1, .int x2, .int x3, .retAddr 0, .retAddr 0, .retAddr 0, .retAddr 0] [] h Q := fun _ _ _ _ _ _ => WPM_in (by decide) (by rw [mL46]; exact Nat.le_of_ble_eq_true rfl) (by rw [mL46]; rfl)
theorem mL47 : mL 47 = 7 := by decide +kernel
theorem we47 : ∀ (x0 : Nat) (x1 : Nat) (x2 : Int32) (x3 : Int32) (h : AH) (Q : Option Value → AH → Prop), WPM 47 [.ref x0, .ref x1, .int x2, .int x3] h Q ↔ WP 47 0 [.ref x0, .ref x1, .int x2, .int x3, .retAddr 0, .retAddr 0, .retAddr 0] [] h Q := fun _ _ _ _ _ _ => WPM_in (by decide) (by rw [mL47]; exact Nat.le_of_ble_eq_true rfl) (by rw [mL47]; rfl)
theorem mL48 : mL 48 = 7 := by decide +kernel
theorem we48 : ∀ (x0 : Nat) (x1 : Int32) (x2 : Int32) (x3 : Int32) (x4 : Int32) (h : AH) (Q : Option Value → AH → Prop), WPM 48 [.ref x0, .int x1, .int x2, .int x3, .int x4] h Q ↔ WP 48 0 [.ref x0, .int x1, .int x2, .int x3, .int x4, .retAddr 0, .retAddr 0] [] h Q := fun _ _ _ _ _ _ _ => WPM_in (by decide) (by rw [mL48]; exact Nat.le_of_ble_eq_true rfl) (by rw [mL48]; rfl)
theorem mL49 : mL 49 = 6 := by decide +kernel
theorem we49 : ∀ (x0 : Nat) (x1 : Int32) (h : AH) (Q : Option Value → AH → Prop), WPM 49 [.ref x0, .int x1] h Q ↔ WP 49 0 [.ref x0, .int x1, .retAddr 0, .retAddr 0, .retAddr 0, .retAddr 0] [] h Q := fun _ _ _ _ => WPM_in (by decide) (by rw [mL49]; exact Nat.le_of_ble_eq_true rfl) (by rw [mL49]; rfl)
theorem mL50 : mL 50 = 3 := by decide +kernel
theorem we50 : ∀ (x0 : Nat) (x1 : Nat) (x2 : Nat) (h : AH) (Q : Option Value → AH → Prop), WPM 50 [.ref x0, .ref x1, .ref x2] h Q ↔ WP 50 0 [.ref x0, .ref x1, .ref x2] [] h Q := fun _ _ _ _ _ => WPM_in (by decide) (by rw [mL50]; exact Nat.le_of_ble_eq_true rfl) (by rw [mL50]; rfl)
theorem mL51 : mL 51 = 1 := by decide +kernel
theorem we51 : ∀ (x0 : Nat) (h : AH) (Q : Option Value → AH → Prop), WPM 51 [.ref x0] h Q ↔ WP 51 0 [.ref x0] [] h Q := fun _ _ _ => WPM_in (by decide) (by rw [mL51]; exact Nat.le_of_ble_eq_true rfl) (by rw [mL51]; rfl)
theorem mL52 : mL 52 = 4 := by decide +kernel
theorem we52 : ∀ (x0 : Nat) (x1 : Nat) (x2 : Int32) (x3 : Int32) (h : AH) (Q : Option Value → AH → Prop), WPM 52 [.ref x0, .ref x1, .int x2, .int x3] h Q ↔ WP 52 0 [.ref x0, .ref x1, .int x2, .int x3] [] h Q := fun _ _ _ _ _ _ => WPM_in (by decide) (by rw [mL52]; exact Nat.le_of_ble_eq_true rfl) (by rw [mL52]; rfl)
theorem mL53 : mL 53 = 6 := by decide +kernel
theorem we53 : ∀ (x0 : Nat) (x1 : Nat) (x2 : Int32) (x3 : Int32) (h : AH) (Q : Option Value → AH → Prop), WPM 53 [.ref x0, .ref x1, .int x2, .int x3] h Q ↔ WP 53 0 [.ref x0, .ref x1, .int x2, .int x3, .retAddr 0, .retAddr 0] [] h Q := fun _ _ _ _ _ _ => WPM_in (by decide) (by rw [mL53]; exact Nat.le_of_ble_eq_true rfl) (by rw [mL53]; rfl)
theorem mL54 : mL 54 = 5 := by decide +kernel
theorem we54 : ∀ (x0 : Nat) (x1 : Nat) (x2 : Int32) (x3 : Int32) (x4 : Int32) (h : AH) (Q : Option Value → AH → Prop), WPM 54 [.ref x0, .ref x1, .int x2, .int x3, .int x4] h Q ↔ WP 54 0 [.ref x0, .ref x1, .int x2, .int x3, .int x4] [] h Q := fun _ _ _ _ _ _ _ => WPM_in (by decide) (by rw [mL54]; exact Nat.le_of_ble_eq_true rfl) (by rw [mL54]; rfl)
theorem mL55 : mL 55 = 7 := by decide +kernel
theorem we55 : ∀ (x0 : Nat) (x1 : Nat) (x2 : Int32) (h : AH) (Q : Option Value → AH → Prop), WPM 55 [.ref x0, .ref x1, .int x2] h Q ↔ WP 55 0 [.ref x0, .ref x1, .int x2, .retAddr 0, .retAddr 0, .retAddr 0, .retAddr 0] [] h Q := fun _ _ _ _ _ => WPM_in (by decide) (by rw [mL55]; exact Nat.le_of_ble_eq_true rfl) (by rw [mL55]; rfl)
theorem mL56 : mL 56 = 4 := by decide +kernel
theorem we56 : ∀ (x0 : Nat) (x1 : Nat) (x2 : Int32) (h : AH) (Q : Option Value → AH → Prop), WPM 56 [.ref x0, .ref x1, .int x2] h Q ↔ WP 56 0 [.ref x0, .ref x1, .int x2, .retAddr 0] [] h Q := fun _ _ _ _ _ => WPM_in (by decide) (by rw [mL56]; exact Nat.le_of_ble_eq_true rfl) (by rw [mL56]; rfl)
theorem mL57 : mL 57 = 3 := by decide +kernel
theorem we57 : ∀ (x0 : Nat) (x1 : Nat) (h : AH) (Q : Option Value → AH → Prop), WPM 57 [.ref x0, .ref x1] h Q ↔ WP 57 0 [.ref x0, .ref x1, .retAddr 0] [] h Q := fun _ _ _ _ => WPM_in (by decide) (by rw [mL57]; exact Nat.le_of_ble_eq_true rfl) (by rw [mL57]; rfl)
theorem mL58 : mL 58 = 6 := by decide +kernel
theorem we58 : ∀ (x0 : Nat) (x1 : Int32) (x2 : Int32) (x3 : Int32) (h : AH) (Q : Option Value → AH → Prop), WPM 58 [.ref x0, .int x1, .int x2, .int x3] h Q ↔ WP 58 0 [.ref x0, .int x1, .int x2, .int x3, .retAddr 0, .retAddr 0] [] h Q := fun _ _ _ _ _ _ => WPM_in (by decide) (by rw [mL58]; exact Nat.le_of_ble_eq_true rfl) (by rw [mL58]; rfl)
theorem mL59 : mL 59 = 3 := by decide +kernel
theorem we59 : ∀ (x0 : Nat) (x1 : Int32) (h : AH) (Q : Option Value → AH → Prop), WPM 59 [.ref x0, .int x1] h Q ↔ WP 59 0 [.ref x0, .int x1, .retAddr 0] [] h Q := fun _ _ _ _ => WPM_in (by decide) (by rw [mL59]; exact Nat.le_of_ble_eq_true rfl) (by rw [mL59]; rfl)
theorem mL60 : mL 60 = 3 := by decide +kernel
theorem we60 : ∀ (x0 : Nat) (x1 : Int32) (h : AH) (Q : Option Value → AH → Prop), WPM 60 [.ref x0, .int x1] h Q ↔ WP 60 0 [.ref x0, .int x1, .retAddr 0] [] h Q := fun _ _ _ _ => WPM_in (by decide) (by rw [mL60]; exact Nat.le_of_ble_eq_true rfl) (by rw [mL60]; rfl)
theorem mL61 : mL 61 = 5 := by decide +kernel
theorem we61 : ∀ (x0 : Nat) (x1 : Int32) (x2 : Int32) (h : AH) (Q : Option Value → AH → Prop), WPM 61 [.ref x0, .int x1, .int x2] h Q ↔ WP 61 0 [.ref x0, .int x1, .int x2, .retAddr 0, .retAddr 0] [] h Q := fun _ _ _ _ _ => WPM_in (by decide) (by rw [mL61]; exact Nat.le_of_ble_eq_true rfl) (by rw [mL61]; rfl)
theorem mL62 : mL 62 = 1 := by decide +kernel
theorem we62 : ∀ (x0 : Nat) (h : AH) (Q : Option Value → AH → Prop), WPM 62 [.ref x0] h Q ↔ WP 62 0 [.ref x0] [] h Q := fun _ _ _ => WPM_in (by decide) (by rw [mL62]; exact Nat.le_of_ble_eq_true rfl) (by rw [mL62]; rfl)
theorem mL63 : mL 63 = 2 := by decide +kernel
theorem we63 : ∀ (x0 : Nat) (x1 : Int32) (h : AH) (Q : Option Value → AH → Prop), WPM 63 [.ref x0, .int x1] h Q ↔ WP 63 0 [.ref x0, .int x1] [] h Q := fun _ _ _ _ => WPM_in (by decide) (by rw [mL63]; exact Nat.le_of_ble_eq_true rfl) (by rw [mL63]; rfl)
theorem mL64 : mL 64 = 2 := by decide +kernel
theorem we64 : ∀ (x0 : Nat) (x1 : Int32) (h : AH) (Q : Option Value → AH → Prop), WPM 64 [.ref x0, .int x1] h Q ↔ WP 64 0 [.ref x0, .int x1] [] h Q := fun _ _ _ _ => WPM_in (by decide) (by rw [mL64]; exact Nat.le_of_ble_eq_true rfl) (by rw [mL64]; rfl)
theorem mL65 : mL 65 = 3 := by decide +kernel
theorem we65 : ∀ (x0 : Nat) (x1 : Nat) (x2 : Int32) (h : AH) (Q : Option Value → AH → Prop), WPM 65 [.ref x0, .ref x1, .int x2] h Q ↔ WP 65 0 [.ref x0, .ref x1, .int x2] [] h Q := fun _ _ _ _ _ => WPM_in (by decide) (by rw [mL65]; exact Nat.le_of_ble_eq_true rfl) (by rw [mL65]; rfl)
theorem mL66 : mL 66 = 5 := by decide +kernel
theorem we66 : ∀ (x0 : Nat) (x1 : Nat) (x2 : Int32) (x3 : Nat) (h : AH) (Q : Option Value → AH → Prop), WPM 66 [.ref x0, .ref x1, .int x2, .ref x3] h Q ↔ WP 66 0 [.ref x0, .ref x1, .int x2, .ref x3, .retAddr 0] [] h Q := fun _ _ _ _ _ _ => WPM_in (by decide) (by rw [mL66]; exact Nat.le_of_ble_eq_true rfl) (by rw [mL66]; rfl)
theorem mL67 : mL 67 = 6 := by decide +kernel
theorem we67 : ∀ (x0 : Nat) (x1 : Nat) (h : AH) (Q : Option Value → AH → Prop), WPM 67 [.ref x0, .ref x1] h Q ↔ WP 67 0 [.ref x0, .ref x1, .retAddr 0, .retAddr 0, .retAddr 0, .retAddr 0] [] h Q := fun _ _ _ _ => WPM_in (by decide) (by rw [mL67]; exact Nat.le_of_ble_eq_true rfl) (by rw [mL67]; rfl)
theorem mL68 : mL 68 = 5 := by decide +kernel
theorem we68 : ∀ (x0 : Nat) (x1 : Nat) (h : AH) (Q : Option Value → AH → Prop), WPM 68 [.ref x0, .ref x1] h Q ↔ WP 68 0 [.ref x0, .ref x1, .retAddr 0, .retAddr 0, .retAddr 0] [] h Q := fun _ _ _ _ => WPM_in (by decide) (by rw [mL68]; exact Nat.le_of_ble_eq_true rfl) (by rw [mL68]; rfl)
theorem mL69 : mL 69 = 2 := by decide +kernel
theorem we69 : ∀ (x0 : Nat) (h : AH) (Q : Option Value → AH → Prop), WPM 69 [.ref x0] h Q ↔ WP 69 0 [.ref x0, .retAddr 0] [] h Q := fun _ _ _ => WPM_in (by decide) (by rw [mL69]; exact Nat.le_of_ble_eq_true rfl) (by rw [mL69]; rfl)
theorem mL70 : mL 70 = 5 := by decide +kernel
theorem we70 : ∀ (x0 : Nat) (x1 : Nat) (h : AH) (Q : Option Value → AH → Prop), WPM 70 [.ref x0, .ref x1] h Q ↔ WP 70 0 [.ref x0, .ref x1, .retAddr 0, .retAddr 0, .retAddr 0] [] h Q := fun _ _ _ _ => WPM_in (by decide) (by rw [mL70]; exact Nat.le_of_ble_eq_true rfl) (by rw [mL70]; rfl)
theorem mL71 : mL 71 = 5 := by decide +kernel
theorem we71 : ∀ (x0 : Nat) (x1 : Nat) (x2 : Int32) (x3 : Nat) (h : AH) (Q : Option Value → AH → Prop), WPM 71 [.ref x0, .ref x1, .int x2, .ref x3] h Q ↔ WP 71 0 [.ref x0, .ref x1, .int x2, .ref x3, .retAddr 0] [] h Q := fun _ _ _ _ _ _ => WPM_in (by decide) (by rw [mL71]; exact Nat.le_of_ble_eq_true rfl) (by rw [mL71]; rfl)
theorem mL72 : mL 72 = 6 := by decide +kernel
theorem we72 : ∀ (x0 : Nat) (x1 : Nat) (h : AH) (Q : Option Value → AH → Prop), WPM 72 [.ref x0, .ref x1] h Q ↔ WP 72 0 [.ref x0, .ref x1, .retAddr 0, .retAddr 0, .retAddr 0, .retAddr 0] [] h Q := fun _ _ _ _ => WPM_in (by decide) (by rw [mL72]; exact Nat.le_of_ble_eq_true rfl) (by rw [mL72]; rfl)
theorem mL73 : mL 73 = 3 := by decide +kernel
theorem we73 : ∀ (x0 : Nat) (x1 : Nat) (h : AH) (Q : Option Value → AH → Prop), WPM 73 [.ref x0, .ref x1] h Q ↔ WP 73 0 [.ref x0, .ref x1, .retAddr 0] [] h Q := fun _ _ _ _ => WPM_in (by decide) (by rw [mL73]; exact Nat.le_of_ble_eq_true rfl) (by rw [mL73]; rfl)
theorem mL74 : mL 74 = 3 := by decide +kernel
theorem we74 : ∀ (x0 : Nat) (x1 : Nat) (x2 : Nat) (h : AH) (Q : Option Value → AH → Prop), WPM 74 [.ref x0, .ref x1, .ref x2] h Q ↔ WP 74 0 [.ref x0, .ref x1, .ref x2] [] h Q := fun _ _ _ _ _ => WPM_in (by decide) (by rw [mL74]; exact Nat.le_of_ble_eq_true rfl) (by rw [mL74]; rfl)
theorem mL75 : mL 75 = 6 := by decide +kernel
theorem we75 : ∀ (x0 : Nat) (x1 : Nat) (x2 : Int32) (x3 : Int32) (h : AH) (Q : Option Value → AH → Prop), WPM 75 [.ref x0, .ref x1, .int x2, .int x3] h Q ↔ WP 75 0 [.ref x0, .ref x1, .int x2, .int x3, .retAddr 0, .retAddr 0] [] h Q := fun _ _ _ _ _ _ => WPM_in (by decide) (by rw [mL75]; exact Nat.le_of_ble_eq_true rfl) (by rw [mL75]; rfl)
theorem mL76 : mL 76 = 6 := by decide +kernel
theorem we76 : ∀ (x0 : Nat) (x1 : Nat) (x2 : Int32) (x3 : Int32) (h : AH) (Q : Option Value → AH → Prop), WPM 76 [.ref x0, .ref x1, .int x2, .int x3] h Q ↔ WP 76 0 [.ref x0, .ref x1, .int x2, .int x3, .retAddr 0, .retAddr 0] [] h Q := fun _ _ _ _ _ _ => WPM_in (by decide) (by rw [mL76]; exact Nat.le_of_ble_eq_true rfl) (by rw [mL76]; rfl)
theorem mL77 : mL 77 = 5 := by decide +kernel
theorem we77 : ∀ (x0 : Nat) (x1 : Int32) (x2 : Int32) (x3 : Int64) (h : AH) (Q : Option Value → AH → Prop), WPM 77 [.ref x0, .int x1, .int x2, .long x3] h Q ↔ WP 77 0 [.ref x0, .int x1, .int x2, .long x3, .retAddr 0] [] h Q := fun _ _ _ _ _ _ => WPM_in (by decide) (by rw [mL77]; exact Nat.le_of_ble_eq_true rfl) (by rw [mL77]; rfl)
theorem mL78 : mL 78 = 6 := by decide +kernel
theorem we78 : ∀ (x0 : Nat) (x1 : Int32) (x2 : Int32) (h : AH) (Q : Option Value → AH → Prop), WPM 78 [.ref x0, .int x1, .int x2] h Q ↔ WP 78 0 [.ref x0, .int x1, .int x2, .retAddr 0, .retAddr 0, .retAddr 0] [] h Q := fun _ _ _ _ _ => WPM_in (by decide) (by rw [mL78]; exact Nat.le_of_ble_eq_true rfl) (by rw [mL78]; rfl)
theorem mL79 : mL 79 = 6 := by decide +kernel
theorem we79 : ∀ (x0 : Nat) (x1 : Int32) (x2 : Int32) (h : AH) (Q : Option Value → AH → Prop), WPM 79 [.ref x0, .int x1, .int x2] h Q ↔ WP 79 0 [.ref x0, .int x1, .int x2, .retAddr 0, .retAddr 0, .retAddr 0] [] h Q := fun _ _ _ _ _ => WPM_in (by decide) (by rw [mL79]; exact Nat.le_of_ble_eq_true rfl) (by rw [mL79]; rfl)
theorem mL80 : mL 80 = 6 := by decide +kernel
theorem we80 : ∀ (x0 : Nat) (x1 : Int32) (x2 : Int32) (x3 : Int32) (h : AH) (Q : Option Value → AH → Prop), WPM 80 [.ref x0, .int x1, .int x2, .int x3] h Q ↔ WP 80 0 [.ref x0, .int x1, .int x2, .int x3, .retAddr 0, .retAddr 0] [] h Q := fun _ _ _ _ _ _ => WPM_in (by decide) (by rw [mL80]; exact Nat.le_of_ble_eq_true rfl) (by rw [mL80]; rfl)
theorem mL81 : mL 81 = 2 := by decide +kernel
theorem we81 : ∀ (x0 : Nat) (x1 : Nat) (h : AH) (Q : Option Value → AH → Prop), WPM 81 [.ref x0, .ref x1] h Q ↔ WP 81 0 [.ref x0, .ref x1] [] h Q := fun _ _ _ _ => WPM_in (by decide) (by rw [mL81]; exact Nat.le_of_ble_eq_true rfl) (by rw [mL81]; rfl)
theorem mL82 : mL 82 = 3 := by decide +kernel
theorem we82 : ∀ (x0 : Nat) (x1 : Int32) (h : AH) (Q : Option Value → AH → Prop), WPM 82 [.ref x0, .int x1] h Q ↔ WP 82 0 [.ref x0, .int x1, .retAddr 0] [] h Q := fun _ _ _ _ => WPM_in (by decide) (by rw [mL82]; exact Nat.le_of_ble_eq_true rfl) (by rw [mL82]; rfl)
theorem mL83 : mL 83 = 5 := by decide +kernel
theorem we83 : ∀ (x0 : Nat) (x1 : Int32) (x2 : Int32) (h : AH) (Q : Option Value → AH → Prop), WPM 83 [.ref x0, .int x1, .int x2] h Q ↔ WP 83 0 [.ref x0, .int x1, .int x2, .retAddr 0, .retAddr 0] [] h Q := fun _ _ _ _ _ => WPM_in (by decide) (by rw [mL83]; exact Nat.le_of_ble_eq_true rfl) (by rw [mL83]; rfl)
theorem mL84 : mL 84 = 7 := by decide +kernel
theorem we84 : ∀ (x0 : Nat) (x1 : Nat) (x2 : Int32) (h : AH) (Q : Option Value → AH → Prop), WPM 84 [.ref x0, .ref x1, .int x2] h Q ↔ WP 84 0 [.ref x0, .ref x1, .int x2, .retAddr 0, .retAddr 0, .retAddr 0, .retAddr 0] [] h Q := fun _ _ _ _ _ => WPM_in (by decide) (by rw [mL84]; exact Nat.le_of_ble_eq_true rfl) (by rw [mL84]; rfl)
theorem mL85 : mL 85 = 7 := by decide +kernel
theorem we85 : ∀ (x0 : Nat) (x1 : Nat) (x2 : Int32) (x3 : Int32) (x4 : Int32) (h : AH) (Q : Option Value → AH → Prop), WPM 85 [.ref x0, .ref x1, .int x2, .int x3, .int x4] h Q ↔ WP 85 0 [.ref x0, .ref x1, .int x2, .int x3, .int x4, .retAddr 0, .retAddr 0] [] h Q := fun _ _ _ _ _ _ _ => WPM_in (by decide) (by rw [mL85]; exact Nat.le_of_ble_eq_true rfl) (by rw [mL85]; rfl)
theorem mL86 : mL 86 = 7 := by decide +kernel
theorem we86 : ∀ (x0 : Nat) (x1 : Nat) (x2 : Int32) (x3 : Int32) (x4 : Int32) (h : AH) (Q : Option Value → AH → Prop), WPM 86 [.ref x0, .ref x1, .int x2, .int x3, .int x4] h Q ↔ WP 86 0 [.ref x0, .ref x1, .int x2, .int x3, .int x4, .retAddr 0, .retAddr 0] [] h Q := fun _ _ _ _ _ _ _ => WPM_in (by decide) (by rw [mL86]; exact Nat.le_of_ble_eq_true rfl) (by rw [mL86]; rfl)
theorem mL87 : mL 87 = 8 := by decide +kernel
theorem we87 : ∀ (x0 : Nat) (x1 : Nat) (x2 : Int32) (x3 : Int32) (h : AH) (Q : Option Value → AH → Prop), WPM 87 [.ref x0, .ref x1, .int x2, .int x3] h Q ↔ WP 87 0 [.ref x0, .ref x1, .int x2, .int x3, .retAddr 0, .retAddr 0, .retAddr 0, .retAddr 0] [] h Q := fun _ _ _ _ _ _ => WPM_in (by decide) (by rw [mL87]; exact Nat.le_of_ble_eq_true rfl) (by rw [mL87]; rfl)
theorem mL88 : mL 88 = 3 := by decide +kernel
theorem we88 : ∀ (x0 : Nat) (x1 : Int32) (h : AH) (Q : Option Value → AH → Prop), WPM 88 [.ref x0, .int x1] h Q ↔ WP 88 0 [.ref x0, .int x1, .retAddr 0] [] h Q := fun _ _ _ _ => WPM_in (by decide) (by rw [mL88]; exact Nat.le_of_ble_eq_true rfl) (by rw [mL88]; rfl)
theorem mL89 : mL 89 = 7 := by decide +kernel
theorem we89 : ∀ (x0 : Nat) (x1 : Nat) (x2 : Int32) (x3 : Int32) (x4 : Int32) (h : AH) (Q : Option Value → AH → Prop), WPM 89 [.ref x0, .ref x1, .int x2, .int x3, .int x4] h Q ↔ WP 89 0 [.ref x0, .ref x1, .int x2, .int x3, .int x4, .retAddr 0, .retAddr 0] [] h Q := fun _ _ _ _ _ _ _ => WPM_in (by decide) (by rw [mL89]; exact Nat.le_of_ble_eq_true rfl) (by rw [mL89]; rfl)
theorem mL90 : mL 90 = 6 := by decide +kernel
theorem we90 : ∀ (x0 : Nat) (x1 : Nat) (h : AH) (Q : Option Value → AH → Prop), WPM 90 [.ref x0, .ref x1] h Q ↔ WP 90 0 [.ref x0, .ref x1, .retAddr 0, .retAddr 0, .retAddr 0, .retAddr 0] [] h Q := fun _ _ _ _ => WPM_in (by decide) (by rw [mL90]; exact Nat.le_of_ble_eq_true rfl) (by rw [mL90]; rfl)
theorem mL91 : mL 91 = 10 := by decide +kernel
theorem we91 : ∀ (x0 : Nat) (x1 : Nat) (x2 : Int32) (x3 : Int32) (x4 : Int32) (h : AH) (Q : Option Value → AH → Prop), WPM 91 [.ref x0, .ref x1, .int x2, .int x3, .int x4] h Q ↔ WP 91 0 [.ref x0, .ref x1, .int x2, .int x3, .int x4, .retAddr 0, .retAddr 0, .retAddr 0, .retAddr 0, .retAddr 0] [] h Q := fun _ _ _ _ _ _ _ => WPM_in (by decide) (by rw [mL91]; exact Nat.le_of_ble_eq_true rfl) (by rw [mL91]; rfl)
theorem mL92 : mL 92 = 1 := by decide +kernel
theorem we92 : ∀ (x0 : Nat) (h : AH) (Q : Option Value → AH → Prop), WPM 92 [.ref x0] h Q ↔ WP 92 0 [.ref x0] [] h Q := fun _ _ _ => WPM_in (by decide) (by rw [mL92]; exact Nat.le_of_ble_eq_true rfl) (by rw [mL92]; rfl)
theorem mL93 : mL 93 = 3 := by decide +kernel
theorem we93 : ∀ (x0 : Nat) (x1 : Nat) (x2 : Int32) (h : AH) (Q : Option Value → AH → Prop), WPM 93 [.ref x0, .ref x1, .int x2] h Q ↔ WP 93 0 [.ref x0, .ref x1, .int x2] [] h Q := fun _ _ _ _ _ => WPM_in (by decide) (by rw [mL93]; exact Nat.le_of_ble_eq_true rfl) (by rw [mL93]; rfl)
theorem mL94 : mL 94 = 1 := by decide +kernel
theorem we94 : ∀ (x0 : Nat) (h : AH) (Q : Option Value → AH → Prop), WPM 94 [.ref x0] h Q ↔ WP 94 0 [.ref x0] [] h Q := fun _ _ _ => WPM_in (by decide) (by rw [mL94]; exact Nat.le_of_ble_eq_true rfl) (by rw [mL94]; rfl)
theorem mL95 : mL 95 = 2 := by decide +kernel
theorem we95 : ∀ (x0 : Nat) (h : AH) (Q : Option Value → AH → Prop), WPM 95 [.ref x0] h Q ↔ WP 95 0 [.ref x0, .retAddr 0] [] h Q := fun _ _ _ => WPM_in (by decide) (by rw [mL95]; exact Nat.le_of_ble_eq_true rfl) (by rw [mL95]; rfl)
theorem mL96 : mL 96 = 3 := by decide +kernel
theorem we96 : ∀ (x0 : Nat) (h : AH) (Q : Option Value → AH → Prop), WPM 96 [.ref x0] h Q ↔ WP 96 0 [.ref x0, .retAddr 0, .retAddr 0] [] h Q := fun _ _ _ => WPM_in (by decide) (by rw [mL96]; exact Nat.le_of_ble_eq_true rfl) (by rw [mL96]; rfl)
theorem mL97 : mL 97 = 3 := by decide +kernel
theorem we97 : ∀ (x0 : Nat) (h : AH) (Q : Option Value → AH → Prop), WPM 97 [.ref x0] h Q ↔ WP 97 0 [.ref x0, .retAddr 0, .retAddr 0] [] h Q := fun _ _ _ => WPM_in (by decide) (by rw [mL97]; exact Nat.le_of_ble_eq_true rfl) (by rw [mL97]; rfl)
theorem mL98 : mL 98 = 3 := by decide +kernel
theorem we98 : ∀ (x0 : Nat) (h : AH) (Q : Option Value → AH → Prop), WPM 98 [.ref x0] h Q ↔ WP 98 0 [.ref x0, .retAddr 0, .retAddr 0] [] h Q := fun _ _ _ => WPM_in (by decide) (by rw [mL98]; exact Nat.le_of_ble_eq_true rfl) (by rw [mL98]; rfl)
theorem mL99 : mL 99 = 3 := by decide +kernel
theorem we99 : ∀ (x0 : Nat) (x1 : Int32) (h : AH) (Q : Option Value → AH → Prop), WPM 99 [.ref x0, .int x1] h Q ↔ WP 99 0 [.ref x0, .int x1, .retAddr 0] [] h Q := fun _ _ _ _ => WPM_in (by decide) (by rw [mL99]; exact Nat.le_of_ble_eq_true rfl) (by rw [mL99]; rfl)
theorem mL101 : mL 101 = 1 := by decide +kernel
theorem we101 : ∀ (x0 : Int32) (h : AH) (Q : Option Value → AH → Prop), WPM 101 [.int x0] h Q ↔ WP 101 0 [.int x0] [] h Q := fun _ _ _ => WPM_in (by decide) (by rw [mL101]; exact Nat.le_of_ble_eq_true rfl) (by rw [mL101]; rfl)
theorem mL102 : mL 102 = 1 := by decide +kernel
theorem we102 : ∀ (x0 : Int32) (h : AH) (Q : Option Value → AH → Prop), WPM 102 [.int x0] h Q ↔ WP 102 0 [.int x0] [] h Q := fun _ _ _ => WPM_in (by decide) (by rw [mL102]; exact Nat.le_of_ble_eq_true rfl) (by rw [mL102]; rfl)
theorem mL103 : mL 103 = 1 := by decide +kernel
theorem we103 : ∀ (x0 : Int32) (h : AH) (Q : Option Value → AH → Prop), WPM 103 [.int x0] h Q ↔ WP 103 0 [.int x0] [] h Q := fun _ _ _ => WPM_in (by decide) (by rw [mL103]; exact Nat.le_of_ble_eq_true rfl) (by rw [mL103]; rfl)
theorem mL104 : mL 104 = 3 := by decide +kernel
theorem we104 : ∀ (x0 : Nat) (h : AH) (Q : Option Value → AH → Prop), WPM 104 [.ref x0] h Q ↔ WP 104 0 [.ref x0, .retAddr 0, .retAddr 0] [] h Q := fun _ _ _ => WPM_in (by decide) (by rw [mL104]; exact Nat.le_of_ble_eq_true rfl) (by rw [mL104]; rfl)
theorem mL105 : mL 105 = 6 := by decide +kernel
theorem we105 : ∀ (x0 : Nat) (x1 : Int32) (x2 : Int32) (x3 : Int32) (x4 : Int32) (x5 : Int32) (h : AH) (Q : Option Value → AH → Prop), WPM 105 [.ref x0, .int x1, .int x2, .int x3, .int x4, .int x5] h Q ↔ WP 105 0 [.ref x0, .int x1, .int x2, .int x3, .int x4, .int x5] [] h Q := fun _ _ _ _ _ _ _ _ => WPM_in (by decide) (by rw [mL105]; exact Nat.le_of_ble_eq_true rfl) (by rw [mL105]; rfl)
theorem mL106 : mL 106 = 3 := by decide +kernel
theorem we106 : ∀ (x0 : Nat) (x1 : Int32) (h : AH) (Q : Option Value → AH → Prop), WPM 106 [.ref x0, .int x1] h Q ↔ WP 106 0 [.ref x0, .int x1, .retAddr 0] [] h Q := fun _ _ _ _ => WPM_in (by decide) (by rw [mL106]; exact Nat.le_of_ble_eq_true rfl) (by rw [mL106]; rfl)
theorem mL107 : mL 107 = 2 := by decide +kernel
theorem we107 : ∀ (x0 : Nat) (x1 : Int32) (h : AH) (Q : Option Value → AH → Prop), WPM 107 [.ref x0, .int x1] h Q ↔ WP 107 0 [.ref x0, .int x1] [] h Q := fun _ _ _ _ => WPM_in (by decide) (by rw [mL107]; exact Nat.le_of_ble_eq_true rfl) (by rw [mL107]; rfl)
theorem mL108 : mL 108 = 3 := by decide +kernel
theorem we108 : ∀ (x0 : Nat) (h : AH) (Q : Option Value → AH → Prop), WPM 108 [.ref x0] h Q ↔ WP 108 0 [.ref x0, .retAddr 0, .retAddr 0] [] h Q := fun _ _ _ => WPM_in (by decide) (by rw [mL108]; exact Nat.le_of_ble_eq_true rfl) (by rw [mL108]; rfl)
theorem mL109 : mL 109 = 2 := by decide +kernel
theorem we109 : ∀ (x0 : Nat) (h : AH) (Q : Option Value → AH → Prop), WPM 109 [.ref x0] h Q ↔ WP 109 0 [.ref x0, .retAddr 0] [] h Q := fun _ _ _ => WPM_in (by decide) (by rw [mL109]; exact Nat.le_of_ble_eq_true rfl) (by rw [mL109]; rfl)
theorem mL110 : mL 110 = 1 := by decide +kernel
theorem we110 : ∀ (x0 : Nat) (h : AH) (Q : Option Value → AH → Prop), WPM 110 [.ref x0] h Q ↔ WP 110 0 [.ref x0] [] h Q := fun _ _ _ => WPM_in (by decide) (by rw [mL110]; exact Nat.le_of_ble_eq_true rfl) (by rw [mL110]; rfl)
theorem mL111 : mL 111 = 3 := by decide +kernel
theorem we111 : ∀ (x0 : Nat) (x1 : Int32) (x2 : Int32) (h : AH) (Q : Option Value → AH → Prop), WPM 111 [.ref x0, .int x1, .int x2] h Q ↔ WP 111 0 [.ref x0, .int x1, .int x2] [] h Q := fun _ _ _ _ _ => WPM_in (by decide) (by rw [mL111]; exact Nat.le_of_ble_eq_true rfl) (by rw [mL111]; rfl)
theorem mL112 : mL 112 = 2 := by decide +kernel
theorem we112 : ∀ (x0 : Nat) (x1 : Int32) (h : AH) (Q : Option Value → AH → Prop), WPM 112 [.ref x0, .int x1] h Q ↔ WP 112 0 [.ref x0, .int x1] [] h Q := fun _ _ _ _ => WPM_in (by decide) (by rw [mL112]; exact Nat.le_of_ble_eq_true rfl) (by rw [mL112]; rfl)
theorem mL113 : mL 113 = 3 := by decide +kernel
theorem we113 : ∀ (x0 : Nat) (x1 : Int32) (x2 : Int32) (h : AH) (Q : Option Value → AH → Prop), WPM 113 [.ref x0, .int x1, .int x2] h Q ↔ WP 113 0 [.ref x0, .int x1, .int x2] [] h Q := fun _ _ _ _ _ => WPM_in (by decide) (by rw [mL113]; exact Nat.le_of_ble_eq_true rfl) (by rw [mL113]; rfl)
theorem mL114 : mL 114 = 2 := by decide +kernel
theorem we114 : ∀ (x0 : Nat) (x1 : Int32) (h : AH) (Q : Option Value → AH → Prop), WPM 114 [.ref x0, .int x1] h Q ↔ WP 114 0 [.ref x0, .int x1] [] h Q := fun _ _ _ _ => WPM_in (by decide) (by rw [mL114]; exact Nat.le_of_ble_eq_true rfl) (by rw [mL114]; rfl)
theorem mL115 : mL 115 = 1 := by decide +kernel
theorem we115 : ∀ (x0 : Nat) (h : AH) (Q : Option Value → AH → Prop), WPM 115 [.ref x0] h Q ↔ WP 115 0 [.ref x0] [] h Q := fun _ _ _ => WPM_in (by decide) (by rw [mL115]; exact Nat.le_of_ble_eq_true rfl) (by rw [mL115]; rfl)
theorem mL116 : mL 116 = 4 := by decide +kernel
theorem we116 : ∀ (x0 : Nat) (x1 : Int32) (x2 : Int32) (x3 : Int32) (h : AH) (Q : Option Value → AH → Prop), WPM 116 [.ref x0, .int x1, .int x2, .int x3] h Q ↔ WP 116 0 [.ref x0, .int x1, .int x2, .int x3] [] h Q := fun _ _ _ _ _ _ => WPM_in (by decide) (by rw [mL116]; exact Nat.le_of_ble_eq_true rfl) (by rw [mL116]; rfl)
theorem mL117 : mL 117 = 3 := by decide +kernel
theorem we117 : ∀ (x0 : Nat) (x1 : Int32) (x2 : Int32) (h : AH) (Q : Option Value → AH → Prop), WPM 117 [.ref x0, .int x1, .int x2] h Q ↔ WP 117 0 [.ref x0, .int x1, .int x2] [] h Q := fun _ _ _ _ _ => WPM_in (by decide) (by rw [mL117]; exact Nat.le_of_ble_eq_true rfl) (by rw [mL117]; rfl)
theorem mL118 : mL 118 = 3 := by decide +kernel
theorem we118 : ∀ (x0 : Nat) (x1 : Int32) (x2 : Int32) (h : AH) (Q : Option Value → AH → Prop), WPM 118 [.ref x0, .int x1, .int x2] h Q ↔ WP 118 0 [.ref x0, .int x1, .int x2] [] h Q := fun _ _ _ _ _ => WPM_in (by decide) (by rw [mL118]; exact Nat.le_of_ble_eq_true rfl) (by rw [mL118]; rfl)
theorem mL119 : mL 119 = 3 := by decide +kernel
theorem we119 : ∀ (x0 : Nat) (x1 : Int32) (x2 : Int32) (h : AH) (Q : Option Value → AH → Prop), WPM 119 [.ref x0, .int x1, .int x2] h Q ↔ WP 119 0 [.ref x0, .int x1, .int x2] [] h Q := fun _ _ _ _ _ => WPM_in (by decide) (by rw [mL119]; exact Nat.le_of_ble_eq_true rfl) (by rw [mL119]; rfl)
theorem mL120 : mL 120 = 4 := by decide +kernel
theorem we120 : ∀ (x0 : Nat) (x1 : Int32) (x2 : Int32) (x3 : Int32) (h : AH) (Q : Option Value → AH → Prop), WPM 120 [.ref x0, .int x1, .int x2, .int x3] h Q ↔ WP 120 0 [.ref x0, .int x1, .int x2, .int x3] [] h Q := fun _ _ _ _ _ _ => WPM_in (by decide) (by rw [mL120]; exact Nat.le_of_ble_eq_true rfl) (by rw [mL120]; rfl)
theorem mL121 : mL 121 = 2 := by decide +kernel
theorem we121 : ∀ (x0 : Nat) (x1 : Int32) (h : AH) (Q : Option Value → AH → Prop), WPM 121 [.ref x0, .int x1] h Q ↔ WP 121 0 [.ref x0, .int x1] [] h Q := fun _ _ _ _ => WPM_in (by decide) (by rw [mL121]; exact Nat.le_of_ble_eq_true rfl) (by rw [mL121]; rfl)
theorem mL122 : mL 122 = 1 := by decide +kernel
theorem we122 : ∀ (x0 : Nat) (h : AH) (Q : Option Value → AH → Prop), WPM 122 [.ref x0] h Q ↔ WP 122 0 [.ref x0] [] h Q := fun _ _ _ => WPM_in (by decide) (by rw [mL122]; exact Nat.le_of_ble_eq_true rfl) (by rw [mL122]; rfl)
theorem mL123 : mL 123 = 2 := by decide +kernel
theorem we123 : ∀ (x0 : Nat) (x1 : Int32) (h : AH) (Q : Option Value → AH → Prop), WPM 123 [.ref x0, .int x1] h Q ↔ WP 123 0 [.ref x0, .int x1] [] h Q := fun _ _ _ _ => WPM_in (by decide) (by rw [mL123]; exact Nat.le_of_ble_eq_true rfl) (by rw [mL123]; rfl)
theorem mL124 : mL 124 = 3 := by decide +kernel
theorem we124 : ∀ (x0 : Nat) (x1 : Int32) (h : AH) (Q : Option Value → AH → Prop), WPM 124 [.ref x0, .int x1] h Q ↔ WP 124 0 [.ref x0, .int x1, .retAddr 0] [] h Q := fun _ _ _ _ => WPM_in (by decide) (by rw [mL124]; exact Nat.le_of_ble_eq_true rfl) (by rw [mL124]; rfl)
theorem mL125 : mL 125 = 2 := by decide +kernel
theorem we125 : ∀ (x0 : Nat) (x1 : Int32) (h : AH) (Q : Option Value → AH → Prop), WPM 125 [.ref x0, .int x1] h Q ↔ WP 125 0 [.ref x0, .int x1] [] h Q := fun _ _ _ _ => WPM_in (by decide) (by rw [mL125]; exact Nat.le_of_ble_eq_true rfl) (by rw [mL125]; rfl)
theorem mL126 : mL 126 = 3 := by decide +kernel
theorem we126 : ∀ (x0 : Nat) (x1 : Int32) (x2 : Int32) (h : AH) (Q : Option Value → AH → Prop), WPM 126 [.ref x0, .int x1, .int x2] h Q ↔ WP 126 0 [.ref x0, .int x1, .int x2] [] h Q := fun _ _ _ _ _ => WPM_in (by decide) (by rw [mL126]; exact Nat.le_of_ble_eq_true rfl) (by rw [mL126]; rfl)
theorem mL127 : mL 127 = 1 := by decide +kernel
theorem we127 : ∀ (x0 : Nat) (h : AH) (Q : Option Value → AH → Prop), WPM 127 [.ref x0] h Q ↔ WP 127 0 [.ref x0] [] h Q := fun _ _ _ => WPM_in (by decide) (by rw [mL127]; exact Nat.le_of_ble_eq_true rfl) (by rw [mL127]; rfl)
theorem mL128 : mL 128 = 2 := by decide +kernel
theorem we128 : ∀ (x0 : Nat) (x1 : Int32) (h : AH) (Q : Option Value → AH → Prop), WPM 128 [.ref x0, .int x1] h Q ↔ WP 128 0 [.ref x0, .int x1] [] h Q := fun _ _ _ _ => WPM_in (by decide) (by rw [mL128]; exact Nat.le_of_ble_eq_true rfl) (by rw [mL128]; rfl)
theorem mL129 : mL 129 = 2 := by decide +kernel
theorem we129 : ∀ (x0 : Nat) (h : AH) (Q : Option Value → AH → Prop), WPM 129 [.ref x0] h Q ↔ WP 129 0 [.ref x0, .retAddr 0] [] h Q := fun _ _ _ => WPM_in (by decide) (by rw [mL129]; exact Nat.le_of_ble_eq_true rfl) (by rw [mL129]; rfl)
theorem mL130 : mL 130 = 2 := by decide +kernel
theorem we130 : ∀ (x0 : Nat) (x1 : Int32) (h : AH) (Q : Option Value → AH → Prop), WPM 130 [.ref x0, .int x1] h Q ↔ WP 130 0 [.ref x0, .int x1] [] h Q := fun _ _ _ _ => WPM_in (by decide) (by rw [mL130]; exact Nat.le_of_ble_eq_true rfl) (by rw [mL130]; rfl)
theorem mL131 : mL 131 = 3 := by decide +kernel
theorem we131 : ∀ (x0 : Nat) (x1 : Int32) (x2 : Int32) (h : AH) (Q : Option Value → AH → Prop), WPM 131 [.ref x0, .int x1, .int x2] h Q ↔ WP 131 0 [.ref x0, .int x1, .int x2] [] h Q := fun _ _ _ _ _ => WPM_in (by decide) (by rw [mL131]; exact Nat.le_of_ble_eq_true rfl) (by rw [mL131]; rfl)
theorem mL132 : mL 132 = 2 := by decide +kernel
theorem we132 : ∀ (x0 : Nat) (x1 : Int32) (h : AH) (Q : Option Value → AH → Prop), WPM 132 [.ref x0, .int x1] h Q ↔ WP 132 0 [.ref x0, .int x1] [] h Q := fun _ _ _ _ => WPM_in (by decide) (by rw [mL132]; exact Nat.le_of_ble_eq_true rfl) (by rw [mL132]; rfl)
theorem mL133 : mL 133 = 3 := by decide +kernel
theorem we133 : ∀ (x0 : Nat) (x1 : Int32) (x2 : Int32) (h : AH) (Q : Option Value → AH → Prop), WPM 133 [.ref x0, .int x1, .int x2] h Q ↔ WP 133 0 [.ref x0, .int x1, .int x2] [] h Q := fun _ _ _ _ _ => WPM_in (by decide) (by rw [mL133]; exact Nat.le_of_ble_eq_true rfl) (by rw [mL133]; rfl)
theorem mL134 : mL 134 = 2 := by decide +kernel
theorem we134 : ∀ (x0 : Nat) (x1 : Int32) (h : AH) (Q : Option Value → AH → Prop), WPM 134 [.ref x0, .int x1] h Q ↔ WP 134 0 [.ref x0, .int x1] [] h Q := fun _ _ _ _ => WPM_in (by decide) (by rw [mL134]; exact Nat.le_of_ble_eq_true rfl) (by rw [mL134]; rfl)
theorem mL135 : mL 135 = 2 := by decide +kernel
theorem we135 : ∀ (x0 : Nat) (x1 : Int32) (h : AH) (Q : Option Value → AH → Prop), WPM 135 [.ref x0, .int x1] h Q ↔ WP 135 0 [.ref x0, .int x1] [] h Q := fun _ _ _ _ => WPM_in (by decide) (by rw [mL135]; exact Nat.le_of_ble_eq_true rfl) (by rw [mL135]; rfl)
theorem mL136 : mL 136 = 2 := by decide +kernel
theorem we136 : ∀ (x0 : Nat) (x1 : Int32) (h : AH) (Q : Option Value → AH → Prop), WPM 136 [.ref x0, .int x1] h Q ↔ WP 136 0 [.ref x0, .int x1] [] h Q := fun _ _ _ _ => WPM_in (by decide) (by rw [mL136]; exact Nat.le_of_ble_eq_true rfl) (by rw [mL136]; rfl)
theorem mL137 : mL 137 = 3 := by decide +kernel
theorem we137 : ∀ (x0 : Nat) (x1 : Int32) (x2 : Int32) (h : AH) (Q : Option Value → AH → Prop), WPM 137 [.ref x0, .int x1, .int x2] h Q ↔ WP 137 0 [.ref x0, .int x1, .int x2] [] h Q := fun _ _ _ _ _ => WPM_in (by decide) (by rw [mL137]; exact Nat.le_of_ble_eq_true rfl) (by rw [mL137]; rfl)
theorem mL138 : mL 138 = 2 := by decide +kernel
theorem we138 : ∀ (x0 : Nat) (x1 : Int32) (h : AH) (Q : Option Value → AH → Prop), WPM 138 [.ref x0, .int x1] h Q ↔ WP 138 0 [.ref x0, .int x1] [] h Q := fun _ _ _ _ => WPM_in (by decide) (by rw [mL138]; exact Nat.le_of_ble_eq_true rfl) (by rw [mL138]; rfl)
theorem mL139 : mL 139 = 2 := by decide +kernel
theorem we139 : ∀ (x0 : Nat) (x1 : Int32) (h : AH) (Q : Option Value → AH → Prop), WPM 139 [.ref x0, .int x1] h Q ↔ WP 139 0 [.ref x0, .int x1] [] h Q := fun _ _ _ _ => WPM_in (by decide) (by rw [mL139]; exact Nat.le_of_ble_eq_true rfl) (by rw [mL139]; rfl)
theorem mL140 : mL 140 = 2 := by decide +kernel
theorem we140 : ∀ (x0 : Int32) (x1 : Int32) (h : AH) (Q : Option Value → AH → Prop), WPM 140 [.int x0, .int x1] h Q ↔ WP 140 0 [.int x0, .int x1] [] h Q := fun _ _ _ _ => WPM_in (by decide) (by rw [mL140]; exact Nat.le_of_ble_eq_true rfl) (by rw [mL140]; rfl)
theorem mL141 : mL 141 = 2 := by decide +kernel
theorem we141 : ∀ (x0 : Int32) (x1 : Int32) (h : AH) (Q : Option Value → AH → Prop), WPM 141 [.int x0, .int x1] h Q ↔ WP 141 0 [.int x0, .int x1] [] h Q := fun _ _ _ _ => WPM_in (by decide) (by rw [mL141]; exact Nat.le_of_ble_eq_true rfl) (by rw [mL141]; rfl)
theorem mL142 : mL 142 = 3 := by decide +kernel
theorem we142 : ∀ (x0 : Int32) (x1 : Int32) (x2 : Int32) (h : AH) (Q : Option Value → AH → Prop), WPM 142 [.int x0, .int x1, .int x2] h Q ↔ WP 142 0 [.int x0, .int x1, .int x2] [] h Q := fun _ _ _ _ _ => WPM_in (by decide) (by rw [mL142]; exact Nat.le_of_ble_eq_true rfl) (by rw [mL142]; rfl)
theorem mL143 : mL 143 = 1 := by decide +kernel
theorem we143 : ∀ (x0 : Nat) (h : AH) (Q : Option Value → AH → Prop), WPM 143 [.ref x0] h Q ↔ WP 143 0 [.ref x0] [] h Q := fun _ _ _ => WPM_in (by decide) (by rw [mL143]; exact Nat.le_of_ble_eq_true rfl) (by rw [mL143]; rfl)
theorem mL144 : mL 144 = 1 := by decide +kernel
theorem we144 : ∀ (x0 : Nat) (h : AH) (Q : Option Value → AH → Prop), WPM 144 [.ref x0] h Q ↔ WP 144 0 [.ref x0] [] h Q := fun _ _ _ => WPM_in (by decide) (by rw [mL144]; exact Nat.le_of_ble_eq_true rfl) (by rw [mL144]; rfl)
theorem mL145 : mL 145 = 2 := by decide +kernel
theorem we145 : ∀ (x0 : Nat) (x1 : Int32) (h : AH) (Q : Option Value → AH → Prop), WPM 145 [.ref x0, .int x1] h Q ↔ WP 145 0 [.ref x0, .int x1] [] h Q := fun _ _ _ _ => WPM_in (by decide) (by rw [mL145]; exact Nat.le_of_ble_eq_true rfl) (by rw [mL145]; rfl)
theorem mL146 : mL 146 = 6 := by decide +kernel
theorem we146 : ∀ (x0 : Nat) (x1 : Int32) (x2 : Int32) (x3 : Int32) (x4 : Int32) (x5 : Int32) (h : AH) (Q : Option Value → AH → Prop), WPM 146 [.ref x0, .int x1, .int x2, .int x3, .int x4, .int x5] h Q ↔ WP 146 0 [.ref x0, .int x1, .int x2, .int x3, .int x4, .int x5] [] h Q := fun _ _ _ _ _ _ _ _ => WPM_in (by decide) (by rw [mL146]; exact Nat.le_of_ble_eq_true rfl) (by rw [mL146]; rfl)
theorem mL147 : mL 147 = 3 := by decide +kernel
theorem we147 : ∀ (x0 : Nat) (x1 : Int32) (h : AH) (Q : Option Value → AH → Prop), WPM 147 [.ref x0, .int x1] h Q ↔ WP 147 0 [.ref x0, .int x1, .retAddr 0] [] h Q := fun _ _ _ _ => WPM_in (by decide) (by rw [mL147]; exact Nat.le_of_ble_eq_true rfl) (by rw [mL147]; rfl)
theorem mL148 : mL 148 = 2 := by decide +kernel
theorem we148 : ∀ (x0 : Nat) (x1 : Int32) (h : AH) (Q : Option Value → AH → Prop), WPM 148 [.ref x0, .int x1] h Q ↔ WP 148 0 [.ref x0, .int x1] [] h Q := fun _ _ _ _ => WPM_in (by decide) (by rw [mL148]; exact Nat.le_of_ble_eq_true rfl) (by rw [mL148]; rfl)
theorem mL149 : mL 149 = 1 := by decide +kernel
theorem we149 : ∀ (x0 : Nat) (h : AH) (Q : Option Value → AH → Prop), WPM 149 [.ref x0] h Q ↔ WP 149 0 [.ref x0] [] h Q := fun _ _ _ => WPM_in (by decide) (by rw [mL149]; exact Nat.le_of_ble_eq_true rfl) (by rw [mL149]; rfl)
theorem mL150 : mL 150 = 3 := by decide +kernel
theorem we150 : ∀ (x0 : Int32) (x1 : Int32) (x2 : Int32) (h : AH) (Q : Option Value → AH → Prop), WPM 150 [.int x0, .int x1, .int x2] h Q ↔ WP 150 0 [.int x0, .int x1, .int x2] [] h Q := fun _ _ _ _ _ => WPM_in (by decide) (by rw [mL150]; exact Nat.le_of_ble_eq_true rfl) (by rw [mL150]; rfl)
theorem mL151 : mL 151 = 2 := by decide +kernel
theorem we151 : ∀ (x0 : Nat) (x1 : Int32) (h : AH) (Q : Option Value → AH → Prop), WPM 151 [.ref x0, .int x1] h Q ↔ WP 151 0 [.ref x0, .int x1] [] h Q := fun _ _ _ _ => WPM_in (by decide) (by rw [mL151]; exact Nat.le_of_ble_eq_true rfl) (by rw [mL151]; rfl)
theorem mL152 : mL 152 = 3 := by decide +kernel
theorem we152 : ∀ (x0 : Int32) (h : AH) (Q : Option Value → AH → Prop), WPM 152 [.int x0] h Q ↔ WP 152 0 [.int x0, .retAddr 0, .retAddr 0] [] h Q := fun _ _ _ => WPM_in (by decide) (by rw [mL152]; exact Nat.le_of_ble_eq_true rfl) (by rw [mL152]; rfl)
theorem mL153 : mL 153 = 1 := by decide +kernel
theorem we153 : ∀ (x0 : Nat) (h : AH) (Q : Option Value → AH → Prop), WPM 153 [.ref x0] h Q ↔ WP 153 0 [.ref x0] [] h Q := fun _ _ _ => WPM_in (by decide) (by rw [mL153]; exact Nat.le_of_ble_eq_true rfl) (by rw [mL153]; rfl)
theorem mL154 : mL 154 = 1 := by decide +kernel
theorem we154 : ∀ (x0 : Int32) (h : AH) (Q : Option Value → AH → Prop), WPM 154 [.int x0] h Q ↔ WP 154 0 [.int x0] [] h Q := fun _ _ _ => WPM_in (by decide) (by rw [mL154]; exact Nat.le_of_ble_eq_true rfl) (by rw [mL154]; rfl)
theorem mL155 : mL 155 = 1 := by decide +kernel
theorem we155 : ∀ (x0 : Int32) (h : AH) (Q : Option Value → AH → Prop), WPM 155 [.int x0] h Q ↔ WP 155 0 [.int x0] [] h Q := fun _ _ _ => WPM_in (by decide) (by rw [mL155]; exact Nat.le_of_ble_eq_true rfl) (by rw [mL155]; rfl)
theorem mL156 : mL 156 = 4 := by decide +kernel
theorem we156 : ∀ (x0 : Nat) (h : AH) (Q : Option Value → AH → Prop), WPM 156 [.ref x0] h Q ↔ WP 156 0 [.ref x0, .retAddr 0, .retAddr 0, .retAddr 0] [] h Q := fun _ _ _ => WPM_in (by decide) (by rw [mL156]; exact Nat.le_of_ble_eq_true rfl) (by rw [mL156]; rfl)
theorem mL157 : mL 157 = 2 := by decide +kernel
theorem we157 : ∀ (x0 : Nat) (x1 : Int32) (h : AH) (Q : Option Value → AH → Prop), WPM 157 [.ref x0, .int x1] h Q ↔ WP 157 0 [.ref x0, .int x1] [] h Q := fun _ _ _ _ => WPM_in (by decide) (by rw [mL157]; exact Nat.le_of_ble_eq_true rfl) (by rw [mL157]; rfl)
theorem mL158 : mL 158 = 3 := by decide +kernel
theorem we158 : ∀ (x0 : Nat) (x1 : Int64) (h : AH) (Q : Option Value → AH → Prop), WPM 158 [.ref x0, .long x1] h Q ↔ WP 158 0 [.ref x0, .long x1, .retAddr 0] [] h Q := fun _ _ _ _ => WPM_in (by decide) (by rw [mL158]; exact Nat.le_of_ble_eq_true rfl) (by rw [mL158]; rfl)
theorem mL159 : mL 159 = 2 := by decide +kernel
theorem we159 : ∀ (x0 : Nat) (x1 : Int32) (h : AH) (Q : Option Value → AH → Prop), WPM 159 [.ref x0, .int x1] h Q ↔ WP 159 0 [.ref x0, .int x1] [] h Q := fun _ _ _ _ => WPM_in (by decide) (by rw [mL159]; exact Nat.le_of_ble_eq_true rfl) (by rw [mL159]; rfl)
theorem mL160 : mL 160 = 2 := by decide +kernel
theorem we160 : ∀ (x0 : Nat) (x1 : Int32) (h : AH) (Q : Option Value → AH → Prop), WPM 160 [.ref x0, .int x1] h Q ↔ WP 160 0 [.ref x0, .int x1] [] h Q := fun _ _ _ _ => WPM_in (by decide) (by rw [mL160]; exact Nat.le_of_ble_eq_true rfl) (by rw [mL160]; rfl)
theorem mL161 : mL 161 = 1 := by decide +kernel
theorem we161 : ∀ (x0 : Nat) (h : AH) (Q : Option Value → AH → Prop), WPM 161 [.ref x0] h Q ↔ WP 161 0 [.ref x0] [] h Q := fun _ _ _ => WPM_in (by decide) (by rw [mL161]; exact Nat.le_of_ble_eq_true rfl) (by rw [mL161]; rfl)
theorem mL162 : mL 162 = 3 := by decide +kernel
theorem we162 : ∀ (x0 : Nat) (x1 : Int32) (h : AH) (Q : Option Value → AH → Prop), WPM 162 [.ref x0, .int x1] h Q ↔ WP 162 0 [.ref x0, .int x1, .retAddr 0] [] h Q := fun _ _ _ _ => WPM_in (by decide) (by rw [mL162]; exact Nat.le_of_ble_eq_true rfl) (by rw [mL162]; rfl)
theorem mL163 : mL 163 = 3 := by decide +kernel
theorem we163 : ∀ (x0 : Nat) (h : AH) (Q : Option Value → AH → Prop), WPM 163 [.ref x0] h Q ↔ WP 163 0 [.ref x0, .retAddr 0, .retAddr 0] [] h Q := fun _ _ _ => WPM_in (by decide) (by rw [mL163]; exact Nat.le_of_ble_eq_true rfl) (by rw [mL163]; rfl)
theorem mL164 : mL 164 = 5 := by decide +kernel
theorem we164 : ∀ (x0 : Nat) (x1 : Int32) (h : AH) (Q : Option Value → AH → Prop), WPM 164 [.ref x0, .int x1] h Q ↔ WP 164 0 [.ref x0, .int x1, .retAddr 0, .retAddr 0, .retAddr 0] [] h Q := fun _ _ _ _ => WPM_in (by decide) (by rw [mL164]; exact Nat.le_of_ble_eq_true rfl) (by rw [mL164]; rfl)
theorem mL165 : mL 165 = 4 := by decide +kernel
theorem we165 : ∀ (x0 : Nat) (x1 : Int32) (h : AH) (Q : Option Value → AH → Prop), WPM 165 [.ref x0, .int x1] h Q ↔ WP 165 0 [.ref x0, .int x1, .retAddr 0, .retAddr 0] [] h Q := fun _ _ _ _ => WPM_in (by decide) (by rw [mL165]; exact Nat.le_of_ble_eq_true rfl) (by rw [mL165]; rfl)
theorem mL166 : mL 166 = 2 := by decide +kernel
theorem we166 : ∀ (x0 : Nat) (h : AH) (Q : Option Value → AH → Prop), WPM 166 [.ref x0] h Q ↔ WP 166 0 [.ref x0, .retAddr 0] [] h Q := fun _ _ _ => WPM_in (by decide) (by rw [mL166]; exact Nat.le_of_ble_eq_true rfl) (by rw [mL166]; rfl)
theorem mL167 : mL 167 = 2 := by decide +kernel
theorem we167 : ∀ (x0 : Nat) (h : AH) (Q : Option Value → AH → Prop), WPM 167 [.ref x0] h Q ↔ WP 167 0 [.ref x0, .retAddr 0] [] h Q := fun _ _ _ => WPM_in (by decide) (by rw [mL167]; exact Nat.le_of_ble_eq_true rfl) (by rw [mL167]; rfl)
theorem mL168 : mL 168 = 1 := by decide +kernel
theorem we168 : ∀ (x0 : Nat) (h : AH) (Q : Option Value → AH → Prop), WPM 168 [.ref x0] h Q ↔ WP 168 0 [.ref x0] [] h Q := fun _ _ _ => WPM_in (by decide) (by rw [mL168]; exact Nat.le_of_ble_eq_true rfl) (by rw [mL168]; rfl)
theorem mL169 : mL 169 = 2 := by decide +kernel
theorem we169 : ∀ (x0 : Nat) (x1 : Int32) (h : AH) (Q : Option Value → AH → Prop), WPM 169 [.ref x0, .int x1] h Q ↔ WP 169 0 [.ref x0, .int x1] [] h Q := fun _ _ _ _ => WPM_in (by decide) (by rw [mL169]; exact Nat.le_of_ble_eq_true rfl) (by rw [mL169]; rfl)
theorem mL170 : mL 170 = 4 := by decide +kernel
theorem we170 : ∀ (x0 : Nat) (x1 : Int32) (h : AH) (Q : Option Value → AH → Prop), WPM 170 [.ref x0, .int x1] h Q ↔ WP 170 0 [.ref x0, .int x1, .retAddr 0, .retAddr 0] [] h Q := fun _ _ _ _ => WPM_in (by decide) (by rw [mL170]; exact Nat.le_of_ble_eq_true rfl) (by rw [mL170]; rfl)
theorem mL171 : mL 171 = 3 := by decide +kernel
theorem we171 : ∀ (x0 : Nat) (h : AH) (Q : Option Value → AH → Prop), WPM 171 [.ref x0] h Q ↔ WP 171 0 [.ref x0, .retAddr 0, .retAddr 0] [] h Q := fun _ _ _ => WPM_in (by decide) (by rw [mL171]; exact Nat.le_of_ble_eq_true rfl) (by rw [mL171]; rfl)
theorem mL172 : mL 172 = 3 := by decide +kernel
theorem we172 : ∀ (x0 : Nat) (x1 : Int32) (x2 : Int32) (h : AH) (Q : Option Value → AH → Prop), WPM 172 [.ref x0, .int x1, .int x2] h Q ↔ WP 172 0 [.ref x0, .int x1, .int x2] [] h Q := fun _ _ _ _ _ => WPM_in (by decide) (by rw [mL172]; exact Nat.le_of_ble_eq_true rfl) (by rw [mL172]; rfl)
theorem mL173 : mL 173 = 6 := by decide +kernel
theorem we173 : ∀ (x0 : Nat) (x1 : Int32) (h : AH) (Q : Option Value → AH → Prop), WPM 173 [.ref x0, .int x1] h Q ↔ WP 173 0 [.ref x0, .int x1, .retAddr 0, .retAddr 0, .retAddr 0, .retAddr 0] [] h Q := fun _ _ _ _ => WPM_in (by decide) (by rw [mL173]; exact Nat.le_of_ble_eq_true rfl) (by rw [mL173]; rfl)
theorem mL174 : mL 174 = 3 := by decide +kernel
theorem we174 : ∀ (x0 : Nat) (x1 : Int32) (x2 : Int32) (h : AH) (Q : Option Value → AH → Prop), WPM 174 [.ref x0, .int x1, .int x2] h Q ↔ WP 174 0 [.ref x0, .int x1, .int x2] [] h Q := fun _ _ _ _ _ => WPM_in (by decide) (by rw [mL174]; exact Nat.le_of_ble_eq_true rfl) (by rw [mL174]; rfl)
theorem mL175 : mL 175 = 5 := by decide +kernel
theorem we175 : ∀ (x0 : Nat) (x1 : Int32) (x2 : Int32) (h : AH) (Q : Option Value → AH → Prop), WPM 175 [.ref x0, .int x1, .int x2] h Q ↔ WP 175 0 [.ref x0, .int x1, .int x2, .retAddr 0, .retAddr 0] [] h Q := fun _ _ _ _ _ => WPM_in (by decide) (by rw [mL175]; exact Nat.le_of_ble_eq_true rfl) (by rw [mL175]; rfl)
theorem mL176 : mL 176 = 5 := by decide +kernel
theorem we176 : ∀ (x0 : Nat) (x1 : Int32) (x2 : Int32) (h : AH) (Q : Option Value → AH → Prop), WPM 176 [.ref x0, .int x1, .int x2] h Q ↔ WP 176 0 [.ref x0, .int x1, .int x2, .retAddr 0, .retAddr 0] [] h Q := fun _ _ _ _ _ => WPM_in (by decide) (by rw [mL176]; exact Nat.le_of_ble_eq_true rfl) (by rw [mL176]; rfl)
theorem mL177 : mL 177 = 2 := by decide +kernel
theorem we177 : ∀ (x0 : Nat) (x1 : Int32) (h : AH) (Q : Option Value → AH → Prop), WPM 177 [.ref x0, .int x1] h Q ↔ WP 177 0 [.ref x0, .int x1] [] h Q := fun _ _ _ _ => WPM_in (by decide) (by rw [mL177]; exact Nat.le_of_ble_eq_true rfl) (by rw [mL177]; rfl)
theorem mL178 : mL 178 = 7 := by decide +kernel
theorem we178 : ∀ (x0 : Nat) (x1 : Int32) (x2 : Int32) (h : AH) (Q : Option Value → AH → Prop), WPM 178 [.ref x0, .int x1, .int x2] h Q ↔ WP 178 0 [.ref x0, .int x1, .int x2, .retAddr 0, .retAddr 0, .retAddr 0, .retAddr 0] [] h Q := fun _ _ _ _ _ => WPM_in (by decide) (by rw [mL178]; exact Nat.le_of_ble_eq_true rfl) (by rw [mL178]; rfl)
theorem mL179 : mL 179 = 2 := by decide +kernel
theorem we179 : ∀ (x0 : Nat) (x1 : Int32) (h : AH) (Q : Option Value → AH → Prop), WPM 179 [.ref x0, .int x1] h Q ↔ WP 179 0 [.ref x0, .int x1] [] h Q := fun _ _ _ _ => WPM_in (by decide) (by rw [mL179]; exact Nat.le_of_ble_eq_true rfl) (by rw [mL179]; rfl)
theorem mL180 : mL 180 = 6 := by decide +kernel
theorem we180 : ∀ (x0 : Nat) (h : AH) (Q : Option Value → AH → Prop), WPM 180 [.ref x0] h Q ↔ WP 180 0 [.ref x0, .retAddr 0, .retAddr 0, .retAddr 0, .retAddr 0, .retAddr 0] [] h Q := fun _ _ _ => WPM_in (by decide) (by rw [mL180]; exact Nat.le_of_ble_eq_true rfl) (by rw [mL180]; rfl)
theorem mL181 : mL 181 = 3 := by decide +kernel
theorem we181 : ∀ (x0 : Nat) (x1 : Int32) (h : AH) (Q : Option Value → AH → Prop), WPM 181 [.ref x0, .int x1] h Q ↔ WP 181 0 [.ref x0, .int x1, .retAddr 0] [] h Q := fun _ _ _ _ => WPM_in (by decide) (by rw [mL181]; exact Nat.le_of_ble_eq_true rfl) (by rw [mL181]; rfl)
theorem mL182 : mL 182 = 3 := by decide +kernel
theorem we182 : ∀ (x0 : Nat) (x1 : Int32) (x2 : Int32) (h : AH) (Q : Option Value → AH → Prop), WPM 182 [.ref x0, .int x1, .int x2] h Q ↔ WP 182 0 [.ref x0, .int x1, .int x2] [] h Q := fun _ _ _ _ _ => WPM_in (by decide) (by rw [mL182]; exact Nat.le_of_ble_eq_true rfl) (by rw [mL182]; rfl)
theorem mL183 : mL 183 = 2 := by decide +kernel
theorem we183 : ∀ (x0 : Nat) (x1 : Int32) (h : AH) (Q : Option Value → AH → Prop), WPM 183 [.ref x0, .int x1] h Q ↔ WP 183 0 [.ref x0, .int x1] [] h Q := fun _ _ _ _ => WPM_in (by decide) (by rw [mL183]; exact Nat.le_of_ble_eq_true rfl) (by rw [mL183]; rfl)
theorem mL184 : mL 184 = 8 := by decide +kernel
theorem we184 : ∀ (x0 : Nat) (x1 : Int32) (x2 : Int32) (h : AH) (Q : Option Value → AH → Prop), WPM 184 [.ref x0, .int x1, .int x2] h Q ↔ WP 184 0 [.ref x0, .int x1, .int x2, .retAddr 0, .retAddr 0, .retAddr 0, .retAddr 0, .retAddr 0] [] h Q := fun _ _ _ _ _ => WPM_in (by decide) (by rw [mL184]; exact Nat.le_of_ble_eq_true rfl) (by rw [mL184]; rfl)
theorem mL185 : mL 185 = 2 := by decide +kernel
theorem we185 : ∀ (x0 : Nat) (x1 : Int32) (h : AH) (Q : Option Value → AH → Prop), WPM 185 [.ref x0, .int x1] h Q ↔ WP 185 0 [.ref x0, .int x1] [] h Q := fun _ _ _ _ => WPM_in (by decide) (by rw [mL185]; exact Nat.le_of_ble_eq_true rfl) (by rw [mL185]; rfl)
theorem mL186 : mL 186 = 1 := by decide +kernel
theorem we186 : ∀ (x0 : Nat) (h : AH) (Q : Option Value → AH → Prop), WPM 186 [.ref x0] h Q ↔ WP 186 0 [.ref x0] [] h Q := fun _ _ _ => WPM_in (by decide) (by rw [mL186]; exact Nat.le_of_ble_eq_true rfl) (by rw [mL186]; rfl)
theorem mL187 : mL 187 = 8 := by decide +kernel
theorem we187 : ∀ (x0 : Nat) (h : AH) (Q : Option Value → AH → Prop), WPM 187 [.ref x0] h Q ↔ WP 187 0 [.ref x0, .retAddr 0, .retAddr 0, .retAddr 0, .retAddr 0, .retAddr 0, .retAddr 0, .retAddr 0] [] h Q := fun _ _ _ => WPM_in (by decide) (by rw [mL187]; exact Nat.le_of_ble_eq_true rfl) (by rw [mL187]; rfl)
theorem mL188 : mL 188 = 5 := by decide +kernel
theorem we188 : ∀ (x0 : Nat) (x1 : Int32) (x2 : Int32) (x3 : Int32) (h : AH) (Q : Option Value → AH → Prop), WPM 188 [.ref x0, .int x1, .int x2, .int x3] h Q ↔ WP 188 0 [.ref x0, .int x1, .int x2, .int x3, .retAddr 0] [] h Q := fun _ _ _ _ _ _ => WPM_in (by decide) (by rw [mL188]; exact Nat.le_of_ble_eq_true rfl) (by rw [mL188]; rfl)
theorem mL189 : mL 189 = 4 := by decide +kernel
theorem we189 : ∀ (x0 : Nat) (x1 : Int32) (x2 : Int32) (h : AH) (Q : Option Value → AH → Prop), WPM 189 [.ref x0, .int x1, .int x2] h Q ↔ WP 189 0 [.ref x0, .int x1, .int x2, .retAddr 0] [] h Q := fun _ _ _ _ _ => WPM_in (by decide) (by rw [mL189]; exact Nat.le_of_ble_eq_true rfl) (by rw [mL189]; rfl)
theorem mL190 : mL 190 = 5 := by decide +kernel
theorem we190 : ∀ (x0 : Nat) (x1 : Int32) (x2 : Int32) (h : AH) (Q : Option Value → AH → Prop), WPM 190 [.ref x0, .int x1, .int x2] h Q ↔ WP 190 0 [.ref x0, .int x1, .int x2, .retAddr 0, .retAddr 0] [] h Q := fun _ _ _ _ _ => WPM_in (by decide) (by rw [mL190]; exact Nat.le_of_ble_eq_true rfl) (by rw [mL190]; rfl)
theorem mL191 : mL 191 = 3 := by decide +kernel
theorem we191 : ∀ (x0 : Nat) (x1 : Int32) (x2 : Int32) (h : AH) (Q : Option Value → AH → Prop), WPM 191 [.ref x0, .int x1, .int x2] h Q ↔ WP 191 0 [.ref x0, .int x1, .int x2] [] h Q := fun _ _ _ _ _ => WPM_in (by decide) (by rw [mL191]; exact Nat.le_of_ble_eq_true rfl) (by rw [mL191]; rfl)
theorem mL192 : mL 192 = 4 := by decide +kernel
theorem we192 : ∀ (x0 : Nat) (x1 : Int32) (x2 : Int32) (x3 : Int32) (h : AH) (Q : Option Value → AH → Prop), WPM 192 [.ref x0, .int x1, .int x2, .int x3] h Q ↔ WP 192 0 [.ref x0, .int x1, .int x2, .int x3] [] h Q := fun _ _ _ _ _ _ => WPM_in (by decide) (by rw [mL192]; exact Nat.le_of_ble_eq_true rfl) (by rw [mL192]; rfl)
theorem mL193 : mL 193 = 4 := by decide +kernel
theorem we193 : ∀ (x0 : Nat) (x1 : Int32) (h : AH) (Q : Option Value → AH → Prop), WPM 193 [.ref x0, .int x1] h Q ↔ WP 193 0 [.ref x0, .int x1, .retAddr 0, .retAddr 0] [] h Q := fun _ _ _ _ => WPM_in (by decide) (by rw [mL193]; exact Nat.le_of_ble_eq_true rfl) (by rw [mL193]; rfl)
theorem mL194 : mL 194 = 6 := by decide +kernel
theorem we194 : ∀ (x0 : Nat) (x1 : Int32) (x2 : Int32) (x3 : Int32) (h : AH) (Q : Option Value → AH → Prop), WPM 194 [.ref x0, .int x1, .int x2, .int x3] h Q ↔ WP 194 0 [.ref x0, .int x1, .int x2, .int x3, .retAddr 0, .retAddr 0] [] h Q := fun _ _ _ _ _ _ => WPM_in (by decide) (by rw [mL194]; exact Nat.le_of_ble_eq_true rfl) (by rw [mL194]; rfl)
theorem mL195 : mL 195 = 3 := by decide +kernel
theorem we195 : ∀ (x0 : Nat) (x1 : Int32) (x2 : Int32) (h : AH) (Q : Option Value → AH → Prop), WPM 195 [.ref x0, .int x1, .int x2] h Q ↔ WP 195 0 [.ref x0, .int x1, .int x2] [] h Q := fun _ _ _ _ _ => WPM_in (by decide) (by rw [mL195]; exact Nat.le_of_ble_eq_true rfl) (by rw [mL195]; rfl)
theorem mL196 : mL 196 = 7 := by decide +kernel
theorem we196 : ∀ (x0 : Nat) (x1 : Int32) (h : AH) (Q : Option Value → AH → Prop), WPM 196 [.ref x0, .int x1] h Q ↔ WP 196 0 [.ref x0, .int x1, .retAddr 0, .retAddr 0, .retAddr 0, .retAddr 0, .retAddr 0] [] h Q := fun _ _ _ _ => WPM_in (by decide) (by rw [mL196]; exact Nat.le_of_ble_eq_true rfl) (by rw [mL196]; rfl)
theorem mL197 : mL 197 = 1 := by decide +kernel
theorem we197 : ∀ (x0 : Nat) (h : AH) (Q : Option Value → AH → Prop), WPM 197 [.ref x0] h Q ↔ WP 197 0 [.ref x0] [] h Q := fun _ _ _ => WPM_in (by decide) (by rw [mL197]; exact Nat.le_of_ble_eq_true rfl) (by rw [mL197]; rfl)
theorem mL198 : mL 198 = 2 := by decide +kernel
theorem we198 : ∀ (x0 : Nat) (x1 : Int32) (h : AH) (Q : Option Value → AH → Prop), WPM 198 [.ref x0, .int x1] h Q ↔ WP 198 0 [.ref x0, .int x1] [] h Q := fun _ _ _ _ => WPM_in (by decide) (by rw [mL198]; exact Nat.le_of_ble_eq_true rfl) (by rw [mL198]; rfl)
theorem mL199 : mL 199 = 7 := by decide +kernel
theorem we199 : ∀ (x0 : Nat) (x1 : Int32) (h : AH) (Q : Option Value → AH → Prop), WPM 199 [.ref x0, .int x1] h Q ↔ WP 199 0 [.ref x0, .int x1, .retAddr 0, .retAddr 0, .retAddr 0, .retAddr 0, .retAddr 0] [] h Q := fun _ _ _ _ => WPM_in (by decide) (by rw [mL199]; exact Nat.le_of_ble_eq_true rfl) (by rw [mL199]; rfl)
theorem mL200 : mL 200 = 9 := by decide +kernel
theorem we200 : ∀ (x0 : Nat) (x1 : Int32) (h : AH) (Q : Option Value → AH → Prop), WPM 200 [.ref x0, .int x1] h Q ↔ WP 200 0 [.ref x0, .int x1, .retAddr 0, .retAddr 0, .retAddr 0, .retAddr 0, .retAddr 0, .retAddr 0, .retAddr 0] [] h Q := fun _ _ _ _ => WPM_in (by decide) (by rw [mL200]; exact Nat.le_of_ble_eq_true rfl) (by rw [mL200]; rfl)
theorem mL201 : mL 201 = 12 := by decide +kernel
theorem we201 : ∀ (x0 : Nat) (x1 : Int32) (x2 : Int32) (x3 : Int32) (x4 : Int32) (h : AH) (Q : Option Value → AH → Prop), WPM 201 [.ref x0, .int x1, .int x2, .int x3, .int x4] h Q ↔ WP 201 0 [.ref x0, .int x1, .int x2, .int x3, .int x4, .retAddr 0, .retAddr 0, .retAddr 0, .retAddr 0, .retAddr 0, .retAddr 0, .retAddr 0] [] h Q := fun _ _ _ _ _ _ _ => WPM_in (by decide) (by rw [mL201]; exact Nat.le_of_ble_eq_true rfl) (by rw [mL201]; rfl)
theorem mL202 : mL 202 = 11 := by decide +kernel
theorem we202 : ∀ (x0 : Nat) (x1 : Int32) (x2 : Int32) (x3 : Int32) (h : AH) (Q : Option Value → AH → Prop), WPM 202 [.ref x0, .int x1, .int x2, .int x3] h Q ↔ WP 202 0 [.ref x0, .int x1, .int x2, .int x3, .retAddr 0, .retAddr 0, .retAddr 0, .retAddr 0, .retAddr 0, .retAddr 0, .retAddr 0] [] h Q := fun _ _ _ _ _ _ => WPM_in (by decide) (by rw [mL202]; exact Nat.le_of_ble_eq_true rfl) (by rw [mL202]; rfl)
theorem mL203 : mL 203 = 7 := by decide +kernel
theorem we203 : ∀ (x0 : Nat) (x1 : Int32) (x2 : Int32) (h : AH) (Q : Option Value → AH → Prop), WPM 203 [.ref x0, .int x1, .int x2] h Q ↔ WP 203 0 [.ref x0, .int x1, .int x2, .retAddr 0, .retAddr 0, .retAddr 0, .retAddr 0] [] h Q := fun _ _ _ _ _ => WPM_in (by decide) (by rw [mL203]; exact Nat.le_of_ble_eq_true rfl) (by rw [mL203]; rfl)
theorem mL204 : mL 204 = 7 := by decide +kernel
theorem we204 : ∀ (x0 : Nat) (x1 : Int32) (x2 : Int32) (x3 : Int32) (x4 : Int32) (h : AH) (Q : Option Value → AH → Prop), WPM 204 [.ref x0, .int x1, .int x2, .int x3, .int x4] h Q ↔ WP 204 0 [.ref x0, .int x1, .int x2, .int x3, .int x4, .retAddr 0, .retAddr 0] [] h Q := fun _ _ _ _ _ _ _ => WPM_in (by decide) (by rw [mL204]; exact Nat.le_of_ble_eq_true rfl) (by rw [mL204]; rfl)
theorem mL205 : mL 205 = 2 := by decide +kernel
theorem we205 : ∀ (x0 : Nat) (h : AH) (Q : Option Value → AH → Prop), WPM 205 [.ref x0] h Q ↔ WP 205 0 [.ref x0, .retAddr 0] [] h Q := fun _ _ _ => WPM_in (by decide) (by rw [mL205]; exact Nat.le_of_ble_eq_true rfl) (by rw [mL205]; rfl)
theorem mL206 : mL 206 = 10 := by decide +kernel
theorem we206 : ∀ (x0 : Nat) (x1 : Int32) (h : AH) (Q : Option Value → AH → Prop), WPM 206 [.ref x0, .int x1] h Q ↔ WP 206 0 [.ref x0, .int x1, .retAddr 0, .retAddr 0, .retAddr 0, .retAddr 0, .retAddr 0, .retAddr 0, .retAddr 0, .retAddr 0] [] h Q := fun _ _ _ _ => WPM_in (by decide) (by rw [mL206]; exact Nat.le_of_ble_eq_true rfl) (by rw [mL206]; rfl)
theorem mL207 : mL 207 = 3 := by decide +kernel
theorem we207 : ∀ (x0 : Nat) (x1 : Int32) (x2 : Int32) (h : AH) (Q : Option Value → AH → Prop), WPM 207 [.ref x0, .int x1, .int x2] h Q ↔ WP 207 0 [.ref x0, .int x1, .int x2] [] h Q := fun _ _ _ _ _ => WPM_in (by decide) (by rw [mL207]; exact Nat.le_of_ble_eq_true rfl) (by rw [mL207]; rfl)
theorem mL208 : mL 208 = 7 := by decide +kernel
theorem we208 : ∀ (x0 : Nat) (x1 : Int32) (h : AH) (Q : Option Value → AH → Prop), WPM 208 [.ref x0, .int x1] h Q ↔ WP 208 0 [.ref x0, .int x1, .retAddr 0, .retAddr 0, .retAddr 0, .retAddr 0, .retAddr 0] [] h Q := fun _ _ _ _ => WPM_in (by decide) (by rw [mL208]; exact Nat.le_of_ble_eq_true rfl) (by rw [mL208]; rfl)
theorem mL209 : mL 209 = 5 := by decide +kernel
theorem we209 : ∀ (x0 : Nat) (h : AH) (Q : Option Value → AH → Prop), WPM 209 [.ref x0] h Q ↔ WP 209 0 [.ref x0, .retAddr 0, .retAddr 0, .retAddr 0, .retAddr 0] [] h Q := fun _ _ _ => WPM_in (by decide) (by rw [mL209]; exact Nat.le_of_ble_eq_true rfl) (by rw [mL209]; rfl)
theorem mL210 : mL 210 = 2 := by decide +kernel
theorem we210 : ∀ (x0 : Nat) (h : AH) (Q : Option Value → AH → Prop), WPM 210 [.ref x0] h Q ↔ WP 210 0 [.ref x0, .retAddr 0] [] h Q := fun _ _ _ => WPM_in (by decide) (by rw [mL210]; exact Nat.le_of_ble_eq_true rfl) (by rw [mL210]; rfl)
theorem mL211 : mL 211 = 2 := by decide +kernel
theorem we211 : ∀ (x0 : Nat) (h : AH) (Q : Option Value → AH → Prop), WPM 211 [.ref x0] h Q ↔ WP 211 0 [.ref x0, .retAddr 0] [] h Q := fun _ _ _ => WPM_in (by decide) (by rw [mL211]; exact Nat.le_of_ble_eq_true rfl) (by rw [mL211]; rfl)
theorem mL212 : mL 212 = 2 := by decide +kernel
theorem we212 : ∀ (x0 : Nat) (x1 : Int32) (h : AH) (Q : Option Value → AH → Prop), WPM 212 [.ref x0, .int x1] h Q ↔ WP 212 0 [.ref x0, .int x1] [] h Q := fun _ _ _ _ => WPM_in (by decide) (by rw [mL212]; exact Nat.le_of_ble_eq_true rfl) (by rw [mL212]; rfl)
theorem mL213 : mL 213 = 6 := by decide +kernel
theorem we213 : ∀ (x0 : Nat) (x1 : Int32) (x2 : Int32) (h : AH) (Q : Option Value → AH → Prop), WPM 213 [.ref x0, .int x1, .int x2] h Q ↔ WP 213 0 [.ref x0, .int x1, .int x2, .retAddr 0, .retAddr 0, .retAddr 0] [] h Q := fun _ _ _ _ _ => WPM_in (by decide) (by rw [mL213]; exact Nat.le_of_ble_eq_true rfl) (by rw [mL213]; rfl)
theorem mL214 : mL 214 = 2 := by decide +kernel
theorem we214 : ∀ (x0 : Nat) (x1 : Int32) (h : AH) (Q : Option Value → AH → Prop), WPM 214 [.ref x0, .int x1] h Q ↔ WP 214 0 [.ref x0, .int x1] [] h Q := fun _ _ _ _ => WPM_in (by decide) (by rw [mL214]; exact Nat.le_of_ble_eq_true rfl) (by rw [mL214]; rfl)
theorem mL215 : mL 215 = 8 := by decide +kernel
theorem we215 : ∀ (x0 : Nat) (x1 : Int32) (x2 : Int32) (h : AH) (Q : Option Value → AH → Prop), WPM 215 [.ref x0, .int x1, .int x2] h Q ↔ WP 215 0 [.ref x0, .int x1, .int x2, .retAddr 0, .retAddr 0, .retAddr 0, .retAddr 0, .retAddr 0] [] h Q := fun _ _ _ _ _ => WPM_in (by decide) (by rw [mL215]; exact Nat.le_of_ble_eq_true rfl) (by rw [mL215]; rfl)
theorem mL216 : mL 216 = 2 := by decide +kernel
theorem we216 : ∀ (x0 : Nat) (x1 : Int32) (h : AH) (Q : Option Value → AH → Prop), WPM 216 [.ref x0, .int x1] h Q ↔ WP 216 0 [.ref x0, .int x1] [] h Q := fun _ _ _ _ => WPM_in (by decide) (by rw [mL216]; exact Nat.le_of_ble_eq_true rfl) (by rw [mL216]; rfl)
theorem mL217 : mL 217 = 2 := by decide +kernel
theorem we217 : ∀ (x0 : Nat) (x1 : Int32) (h : AH) (Q : Option Value → AH → Prop), WPM 217 [.ref x0, .int x1] h Q ↔ WP 217 0 [.ref x0, .int x1] [] h Q := fun _ _ _ _ => WPM_in (by decide) (by rw [mL217]; exact Nat.le_of_ble_eq_true rfl) (by rw [mL217]; rfl)
theorem mL218 : mL 218 = 1 := by decide +kernel
theorem we218 : ∀ (x0 : Int32) (h : AH) (Q : Option Value → AH → Prop), WPM 218 [.int x0] h Q ↔ WP 218 0 [.int x0] [] h Q := fun _ _ _ => WPM_in (by decide) (by rw [mL218]; exact Nat.le_of_ble_eq_true rfl) (by rw [mL218]; rfl)
theorem mL219 : mL 219 = 7 := by decide +kernel
theorem we219 : ∀ (x0 : Nat) (h : AH) (Q : Option Value → AH → Prop), WPM 219 [.ref x0] h Q ↔ WP 219 0 [.ref x0, .retAddr 0, .retAddr 0, .retAddr 0, .retAddr 0, .retAddr 0, .retAddr 0] [] h Q := fun _ _ _ => WPM_in (by decide) (by rw [mL219]; exact Nat.le_of_ble_eq_true rfl) (by rw [mL219]; rfl)

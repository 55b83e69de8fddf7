/-! ===== Integer.bitCount counts ===== -/
def bcN (x : Nat) : Nat :=
  let a := x - ((x / 2) &&& 1431655765)
  let b := (a &&& 858993459) + ((a / 4) &&& 858993459)
  let c := (b + b / 16) &&& 252645135
  let d := c + c / 256
  let e := d + d / 65536
  e &&& 63
theorem bcp_0 : ∀ i, i < 8 → ∀ j, j < 1024 → bcN (0 + 1024 * i + j) = pc (0 + 1024 * i + j) := by decide +kernel
theorem bcp_1 : ∀ i, i < 8 → ∀ j, j < 1024 → bcN (8192 + 1024 * i + j) = pc (8192 + 1024 * i + j) := by decide +kernel
theorem bcp_2 : ∀ i, i < 8 → ∀ j, j < 1024 → bcN (16384 + 1024 * i + j) = pc (16384 + 1024 * i + j) := by decide +kernel
theorem bcp_3 : ∀ i, i < 8 → ∀ j, j < 1024 → bcN (24576 + 1024 * i + j) = pc (24576 + 1024 * i + j) := by decide +kernel
theorem bcp_4 : ∀ i, i < 8 → ∀ j, j < 1024 → bcN (32768 + 1024 * i + j) = pc (32768 + 1024 * i + j) := by decide +kernel
theorem bcp_5 : ∀ i, i < 8 → ∀ j, j < 1024 → bcN (40960 + 1024 * i + j) = pc (40960 + 1024 * i + j) := by decide +kernel
theorem bcp_6 : ∀ i, i < 8 → ∀ j, j < 1024 → bcN (49152 + 1024 * i + j) = pc (49152 + 1024 * i + j) := by decide +kernel
theorem bcp_7 : ∀ i, i < 8 → ∀ j, j < 1024 → bcN (57344 + 1024 * i + j) = pc (57344 + 1024 * i + j) := by decide +kernel

theorem bcI_N {x : Nat} (hx : x < 65536) : bcI (nI x) = nI (bcN x) := by
  have sh : ∀ (n : Nat) (s : Int32) (k : Nat), n < 2 ^ 32 → ((s.toUInt32 &&& Int32.toUInt32 31).toBitVec % 32).toNat = k → ((nI n).toUInt32 >>> (s.toUInt32 &&& Int32.toUInt32 31)).toInt32 = nI (n / 2 ^ k) := fun n s k h1 h2 => pk_ushrN h1 s k h2
  have l1 : ∀ n m : Nat, n &&& m ≤ n := fun n m => Nat.and_le_left
  have l2 : ∀ n m : Nat, n &&& m ≤ m := fun n m => Nat.and_le_right
  unfold bcI bcN
  dsimp only
  have h1 := l1 (x / 2 ^ 1) 1431655765
  rw [sh x 1 1 (by omega) (by decide), nI_and, pk_sub (by omega)]
  obtain ⟨a, ha⟩ : ∃ a, a = x - (x / 2 ^ 1 &&& 1431655765) := ⟨_, rfl⟩
  have ha9 : x - (x / 2 &&& 1431655765) = a := by rw [ha]
  rw [← ha]
  try rw [ha9]
  have ha2 : a < 65536 := by omega
  rw [sh a 2 2 (by omega) (by decide), nI_and, nI_and, nI_add]
  have hb1 := l1 a 858993459
  have hb2 := l1 (a / 2 ^ 2) 858993459
  obtain ⟨b, hb⟩ : ∃ b, b = (a &&& 858993459) + (a / 2 ^ 2 &&& 858993459) := ⟨_, rfl⟩
  have hb9 : (a &&& 858993459) + (a / 4 &&& 858993459) = b := by rw [hb]
  rw [← hb]
  try rw [hb9]
  have hb3 : b < 131072 := by omega
  rw [sh b 4 4 (by omega) (by decide), nI_add, nI_and]
  have hc1 := l1 (b + b / 2 ^ 4) 252645135
  obtain ⟨c, hc⟩ : ∃ c, c = (b + b / 2 ^ 4) &&& 252645135 := ⟨_, rfl⟩
  have hc9 : (b + b / 16) &&& 252645135 = c := by rw [hc]
  rw [← hc]
  try rw [hc9]
  have hc2 : c < 262144 := by omega
  rw [sh c 8 8 (by omega) (by decide), nI_add]
  obtain ⟨d, hd⟩ : ∃ d, d = c + c / 2 ^ 8 := ⟨_, rfl⟩
  have hd9 : c + c / 256 = d := by rw [hd]
  rw [← hd]
  try rw [hd9]
  have hd2 : d < 524288 := by omega
  rw [sh d 16 16 (by omega) (by decide), nI_add, show (63 : Int32) = nI 63 from rfl, nI_and]
theorem bc_pc {x : Nat} (hx : x < 65536) : bcI (nI x) = nI (pc x) := by
  rw [bcI_N hx]
  congr 1
  have h1 : x = 8192 * (x / 8192) + 1024 * (x % 8192 / 1024) + x % 1024 := by omega
  have h2 : x % 8192 / 1024 < 8 := by omega
  have h3 : x % 1024 < 1024 := by omega
  rcases (show x / 8192 = 0 ∨ x / 8192 = 1 ∨ x / 8192 = 2 ∨ x / 8192 = 3 ∨ x / 8192 = 4 ∨ x / 8192 = 5 ∨ x / 8192 = 6 ∨ x / 8192 = 7 by omega) with q | q | q | q | q | q | q | q
  · have := bcp_0 _ h2 _ h3
    rw [q] at h1
    rw [h1]
    exact this
  · have := bcp_1 _ h2 _ h3
    rw [q] at h1
    rw [h1]
    exact this
  · have := bcp_2 _ h2 _ h3
    rw [q] at h1
    rw [h1]
    exact this
  · have := bcp_3 _ h2 _ h3
    rw [q] at h1
    rw [h1]
    exact this
  · have := bcp_4 _ h2 _ h3
    rw [q] at h1
    rw [h1]
    exact this
  · have := bcp_5 _ h2 _ h3
    rw [q] at h1
    rw [h1]
    exact this
  · have := bcp_6 _ h2 _ h3
    rw [q] at h1
    rw [h1]
    exact this
  · have := bcp_7 _ h2 _ h3
    rw [q] at h1
    rw [h1]
    exact this
theorem s218 (x : Int32) (h : AH) (Q : Option Value → AH → Prop) : WPM 218 [.int x] h Q ↔ Q (some (.int (bcI x))) h := by
  simp only [we218, w218_a, w218_b, bcI]

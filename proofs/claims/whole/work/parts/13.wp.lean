/-! ===== rows: what holds ahead of an instruction, by what holds behind it ===== -/
section WRows
variable {m pc : Nat} {ls st : List Value} {h : AH} {Q : Option Value → AH → Prop}
theorem WP_s {i : Instr} {info : List Nat} {pc' : Nat} {ls' st' : List Value} (hc : ct m pc = some (i, 0, info)) (hl : lstep i info pc ls st = some (pc', ls', st')) : WP m pc ls st h Q ↔ WP m pc' ls' st' h Q := WP_0 hc hl
theorem WP_if {i : Instr} {info : List Nat} {b : Bool} {t e : Nat} {ls' st' : List Value} (hc : ct m pc = some (i, 0, info)) (hl : lstep i info pc ls st = some (if b = true then t else e, ls', st')) : WP m pc ls st h Q ↔ ((b = true → WP m t ls' st' h Q) ∧ (¬ b = true → WP m e ls' st' h Q)) := by
  rw [WP_0 hc hl]
  cases b <;> simp
theorem br2_eq {c : _root_.Jvm.ClassFile.Cond} {off : Int} {t : Nat} {x y : Int32} (ht : (pc : Int) + off = (t : Int)) : lstep (.if_icmp c off) [t] pc ls (.int y :: .int x :: st) = some (if cndb c x y = true then t else pc + 3, ls, st) := by
  show br2 c pc off [t] ls (.int y :: .int x :: st) = _
  simp only [br2, if_pos ht]
theorem br1_eq {c : _root_.Jvm.ClassFile.Cond} {off : Int} {t : Nat} {x : Int32} (ht : (pc : Int) + off = (t : Int)) : lstep (.ifCond c off) [t] pc ls (.int x :: st) = some (if cndb c x 0 = true then t else pc + 3, ls, st) := by
  show br1 c pc off [t] ls (.int x :: st) = _
  simp only [br1, if_pos ht]
theorem WI_eq {off : Int} {t : Nat} {x y : Int32} (hc : ct m pc = some (.if_icmp .eq off, 0, [t])) (ht : (pc : Int) + off = (t : Int)) : WP m pc ls (.int y :: .int x :: st) h Q ↔ ((x = y → WP m t ls st h Q) ∧ (¬ x = y → WP m (pc + 3) ls st h Q)) := by
  rw [WP_if hc (br2_eq ht)]
  simp only [cndb, decide_eq_true_eq]
theorem WI_ne {off : Int} {t : Nat} {x y : Int32} (hc : ct m pc = some (.if_icmp .ne off, 0, [t])) (ht : (pc : Int) + off = (t : Int)) : WP m pc ls (.int y :: .int x :: st) h Q ↔ ((¬ x = y → WP m t ls st h Q) ∧ (x = y → WP m (pc + 3) ls st h Q)) := by
  rw [WP_if hc (br2_eq ht)]
  simp only [cndb, decide_eq_true_eq, Decidable.not_not]
theorem WI_lt {off : Int} {t : Nat} {x y : Int32} (hc : ct m pc = some (.if_icmp .lt off, 0, [t])) (ht : (pc : Int) + off = (t : Int)) : WP m pc ls (.int y :: .int x :: st) h Q ↔ ((x < y → WP m t ls st h Q) ∧ (¬ x < y → WP m (pc + 3) ls st h Q)) := by
  rw [WP_if hc (br2_eq ht)]
  simp only [cndb, decide_eq_true_eq]
theorem WI_ge {off : Int} {t : Nat} {x y : Int32} (hc : ct m pc = some (.if_icmp .ge off, 0, [t])) (ht : (pc : Int) + off = (t : Int)) : WP m pc ls (.int y :: .int x :: st) h Q ↔ ((y ≤ x → WP m t ls st h Q) ∧ (¬ y ≤ x → WP m (pc + 3) ls st h Q)) := by
  rw [WP_if hc (br2_eq ht)]
  simp only [cndb, decide_eq_true_eq]
theorem WI_gt {off : Int} {t : Nat} {x y : Int32} (hc : ct m pc = some (.if_icmp .gt off, 0, [t])) (ht : (pc : Int) + off = (t : Int)) : WP m pc ls (.int y :: .int x :: st) h Q ↔ ((y < x → WP m t ls st h Q) ∧ (¬ y < x → WP m (pc + 3) ls st h Q)) := by
  rw [WP_if hc (br2_eq ht)]
  simp only [cndb, decide_eq_true_eq]
theorem WI_le {off : Int} {t : Nat} {x y : Int32} (hc : ct m pc = some (.if_icmp .le off, 0, [t])) (ht : (pc : Int) + off = (t : Int)) : WP m pc ls (.int y :: .int x :: st) h Q ↔ ((x ≤ y → WP m t ls st h Q) ∧ (¬ x ≤ y → WP m (pc + 3) ls st h Q)) := by
  rw [WP_if hc (br2_eq ht)]
  simp only [cndb, decide_eq_true_eq]
theorem WZ_eq {off : Int} {t : Nat} {x : Int32} (hc : ct m pc = some (.ifCond .eq off, 0, [t])) (ht : (pc : Int) + off = (t : Int)) : WP m pc ls (.int x :: st) h Q ↔ ((x = 0 → WP m t ls st h Q) ∧ (¬ x = 0 → WP m (pc + 3) ls st h Q)) := by
  rw [WP_if hc (br1_eq ht)]
  simp only [cndb, decide_eq_true_eq]
theorem WZ_ne {off : Int} {t : Nat} {x : Int32} (hc : ct m pc = some (.ifCond .ne off, 0, [t])) (ht : (pc : Int) + off = (t : Int)) : WP m pc ls (.int x :: st) h Q ↔ ((¬ x = 0 → WP m t ls st h Q) ∧ (x = 0 → WP m (pc + 3) ls st h Q)) := by
  rw [WP_if hc (br1_eq ht)]
  simp only [cndb, decide_eq_true_eq, Decidable.not_not]
theorem WZ_lt {off : Int} {t : Nat} {x : Int32} (hc : ct m pc = some (.ifCond .lt off, 0, [t])) (ht : (pc : Int) + off = (t : Int)) : WP m pc ls (.int x :: st) h Q ↔ ((x < 0 → WP m t ls st h Q) ∧ (¬ x < 0 → WP m (pc + 3) ls st h Q)) := by
  rw [WP_if hc (br1_eq ht)]
  simp only [cndb, decide_eq_true_eq]
theorem WZ_ge {off : Int} {t : Nat} {x : Int32} (hc : ct m pc = some (.ifCond .ge off, 0, [t])) (ht : (pc : Int) + off = (t : Int)) : WP m pc ls (.int x :: st) h Q ↔ ((0 ≤ x → WP m t ls st h Q) ∧ (¬ 0 ≤ x → WP m (pc + 3) ls st h Q)) := by
  rw [WP_if hc (br1_eq ht)]
  simp only [cndb, decide_eq_true_eq]
theorem WZ_gt {off : Int} {t : Nat} {x : Int32} (hc : ct m pc = some (.ifCond .gt off, 0, [t])) (ht : (pc : Int) + off = (t : Int)) : WP m pc ls (.int x :: st) h Q ↔ ((0 < x → WP m t ls st h Q) ∧ (¬ 0 < x → WP m (pc + 3) ls st h Q)) := by
  rw [WP_if hc (br1_eq ht)]
  simp only [cndb, decide_eq_true_eq]
theorem WZ_le {off : Int} {t : Nat} {x : Int32} (hc : ct m pc = some (.ifCond .le off, 0, [t])) (ht : (pc : Int) + off = (t : Int)) : WP m pc ls (.int x :: st) h Q ↔ ((x ≤ 0 → WP m t ls st h Q) ∧ (¬ x ≤ 0 → WP m (pc + 3) ls st h Q)) := by
  rw [WP_if hc (br1_eq ht)]
  simp only [cndb, decide_eq_true_eq]
/-- a step on the heap whose end is known -/
theorem WP_h {i : Instr} {info : List Nat} {st' : List Value} {h1 : AH} {len : Nat} (hc : ct m pc = some (i, 1, info)) (hn : ilen i info = len) (hl : hstep i info st h = some (st', h1)) : WP m pc ls st h Q ↔ WP m (pc + len) ls st' h1 Q := by
  rw [WP_1 hc hn, hl]
  constructor
  · rintro ⟨q, e, w⟩
    cases e
    exact w
  · exact fun w => ⟨_, rfl, w⟩
variable {a ix : Nat}
theorem WH_gI {ci k kd pl : Nat} (hc : ct m pc = some (.getfield ix, 1, [ci, k, kd, pl])) (hk : kd = 0 ∨ kd = 3) (ht : hT h a = ci + 1) : WP m pc ls (.ref a :: st) h Q ↔ WP m (pc + 3) ls (.int (hI h a k) :: st) h Q :=
  WP_h hc rfl (by show getf ci k kd h (.ref a :: st) = _; rcases hk with rfl | rfl <;> simp [getf, ht])
theorem WH_gJ {ci k pl : Nat} (hc : ct m pc = some (.getfield ix, 1, [ci, k, 1, pl])) (ht : hT h a = ci + 1) : WP m pc ls (.ref a :: st) h Q ↔ WP m (pc + 3) ls (.long (hJ h a k) :: st) h Q :=
  WP_h hc rfl (by show getf ci k 1 h (.ref a :: st) = _; simp [getf, ht])
theorem WH_gR {ci k pl : Nat} (hc : ct m pc = some (.getfield ix, 1, [ci, k, 2, pl])) (ht : hT h a = ci + 1) : WP m pc ls (.ref a :: st) h Q ↔ WP m (pc + 3) ls (.ref (hR h a k) :: st) h Q :=
  WP_h hc rfl (by show getf ci k 2 h (.ref a :: st) = _; simp [getf, ht])
theorem WH_pI {ci k f pl : Nat} {x : Int32} (hc : ct m pc = some (.putfield ix, 1, [ci, k, 0, f, pl])) (ht : hT h a = ci + 1) : WP m pc ls (.int x :: .ref a :: st) h Q ↔ WP m (pc + 3) ls st (sI h a k x) Q :=
  WP_h hc rfl (by show putf ci k 0 h (.int x :: .ref a :: st) = _; simp [putf, ht])
theorem WH_pZ {ci k f pl : Nat} {x : Int32} (hc : ct m pc = some (.putfield ix, 1, [ci, k, 3, f, pl])) (ht : hT h a = ci + 1) (hx : x = 0 ∨ x = 1) : WP m pc ls (.int x :: .ref a :: st) h Q ↔ WP m (pc + 3) ls st (sI h a k x) Q :=
  WP_h hc rfl (by show putf ci k 3 h (.int x :: .ref a :: st) = _; simp [putf, ht, hx])
theorem WH_pJ {ci k f pl : Nat} {x : Int64} (hc : ct m pc = some (.putfield ix, 1, [ci, k, 1, f, pl])) (ht : hT h a = ci + 1) : WP m pc ls (.long x :: .ref a :: st) h Q ↔ WP m (pc + 3) ls st (sJ h a k x) Q :=
  WP_h hc rfl (by show putf ci k 1 h (.long x :: .ref a :: st) = _; simp [putf, ht])
theorem WH_pR {ci k f pl : Nat} {x : Nat} (hc : ct m pc = some (.putfield ix, 1, [ci, k, 2, f, pl])) (ht : hT h a = ci + 1) : WP m pc ls (.ref x :: .ref a :: st) h Q ↔ WP m (pc + 3) ls st (sR h a k x) Q :=
  WP_h hc rfl (by show putf ci k 2 h (.ref x :: .ref a :: st) = _; simp [putf, ht])
theorem WH_iald {i : Int32} (hc : ct m pc = some (.iaload, 1, [])) (ht : hT h a = 100 ∨ hT h a = 110) (hi : inb i (hL h a) = true) : WP m pc ls (.int i :: .ref a :: st) h Q ↔ WP m (pc + 1) ls (.int (hI h a i.toNatClampNeg) :: st) h Q :=
  WP_h hc rfl (by show aldI h (.int i :: .ref a :: st) = _; simp [aldI, ht, hi])
theorem WH_bald {i : Int32} (hc : ct m pc = some (.baload, 1, [])) (ht : hT h a = 101 ∨ hT h a = 102) (hi : inb i (hL h a) = true) : WP m pc ls (.int i :: .ref a :: st) h Q ↔ WP m (pc + 1) ls (.int (hI h a i.toNatClampNeg) :: st) h Q :=
  WP_h hc rfl (by show aldB h (.int i :: .ref a :: st) = _; simp [aldB, ht, hi])
theorem WH_lald {i : Int32} (hc : ct m pc = some (.laload, 1, [])) (ht : hT h a = 103) (hi : inb i (hL h a) = true) : WP m pc ls (.int i :: .ref a :: st) h Q ↔ WP m (pc + 1) ls (.long (hJ h a i.toNatClampNeg) :: st) h Q :=
  WP_h hc rfl (by show aldJ h (.int i :: .ref a :: st) = _; simp [aldJ, ht, hi])
theorem WH_iast {i x : Int32} (hc : ct m pc = some (.iastore, 1, [])) (ht : hT h a = 100) (hi : inb i (hL h a) = true) : WP m pc ls (.int x :: .int i :: .ref a :: st) h Q ↔ WP m (pc + 1) ls st (sI h a i.toNatClampNeg x) Q :=
  WP_h hc rfl (by show astI h (.int x :: .int i :: .ref a :: st) = _; simp [astI, ht, hi])
theorem WH_bast {i x : Int32} (hc : ct m pc = some (.bastore, 1, [])) (ht : hT h a = 101) (hi : inb i (hL h a) = true) : WP m pc ls (.int x :: .int i :: .ref a :: st) h Q ↔ WP m (pc + 1) ls st (sI h a i.toNatClampNeg x.toInt8.toInt32) Q :=
  WP_h hc rfl (by show astB h (.int x :: .int i :: .ref a :: st) = _; simp [astB, ht, hi, vp_nar_byte])
theorem WH_zast {i x : Int32} (hc : ct m pc = some (.bastore, 1, [])) (ht : hT h a = 102) (hi : inb i (hL h a) = true) : WP m pc ls (.int x :: .int i :: .ref a :: st) h Q ↔ WP m (pc + 1) ls st (sI h a i.toNatClampNeg (x &&& 1)) Q :=
  WP_h hc rfl (by show astB h (.int x :: .int i :: .ref a :: st) = _; simp [astB, ht, hi]; rfl)
theorem WH_last {i : Int32} {x : Int64} (hc : ct m pc = some (.lastore, 1, [])) (ht : hT h a = 103) (hi : inb i (hL h a) = true) : WP m pc ls (.long x :: .int i :: .ref a :: st) h Q ↔ WP m (pc + 1) ls st (sJ h a i.toNatClampNeg x) Q :=
  WP_h hc rfl (by show astJ h (.long x :: .int i :: .ref a :: st) = _; simp [astJ, ht, hi])
theorem WH_alen (hc : ct m pc = some (.arraylength, 1, [])) (ht : hT h a = 100 ∨ hT h a = 101 ∨ hT h a = 102 ∨ hT h a = 103 ∨ hT h a = 110) : WP m pc ls (.ref a :: st) h Q ↔ WP m (pc + 1) ls (.int (nI (hL h a)) :: st) h Q :=
  WP_h hc rfl (by show alen h (.ref a :: st) = _; simp [alen, ht])
theorem WH_newa {at9 : ArrayType} {t pl : Nat} {n : Int32} (hc : ct m pc = some (.newarray at9, 1, [t, pl])) (ht : t = 100 ∨ t = 101 ∨ t = 102 ∨ t = 103) (h0 : 0 ≤ n) (h1 : n.toNatClampNeg ≤ 1048576) : WP m pc ls (.int n :: st) h Q ↔ WP m (pc + 2) ls (.ref (hN h) :: st) (nw h t n.toNatClampNeg n.toNatClampNeg) Q :=
  WP_h hc rfl (by show newa t h (.int n :: st) = _; simp [newa, ht, h0, h1])
theorem WH_new {ci n p1 p2 p3 : Nat} (hc : ct m pc = some (.new ix, 1, [ci, n, p1, p2, p3])) : WP m pc ls st h Q ↔ WP m (pc + 3) ls (.ref (hN h) :: st) (nw h (ci + 1) 0 n) Q :=
  WP_h hc rfl rfl
theorem WH_obj {info : List Nat} (hc : ct m pc = some (.invokespecial ix, 1, info)) (h0 : a ≠ 0) (h8 : (st.map fun v => v.category).sum ≤ 8) : WP m pc ls (.ref a :: st) h Q ↔ WP m (pc + 3) ls st h Q :=
  WP_h hc rfl (by show obin h (.ref a :: st) = _; simp [obin, h0, h8])
theorem WH_max {tl : List Nat} {x y : Int32} (hc : ct m pc = some (.invokestatic ix, 1, 0 :: tl)) (h8 : (st.map fun v => v.category).sum ≤ 8) : WP m pc ls (.int y :: .int x :: st) h Q ↔ WP m (pc + 3) ls (.int (if x < y then y else x) :: st) h Q :=
  WP_h hc rfl (by show math 0 h (.int y :: .int x :: st) = _; simp [math, h8])
theorem WH_min {tl : List Nat} {x y : Int32} (hc : ct m pc = some (.invokestatic ix, 1, 1 :: tl)) (h8 : (st.map fun v => v.category).sum ≤ 8) : WP m pc ls (.int y :: .int x :: st) h Q ↔ WP m (pc + 3) ls (.int (if y < x then y else x) :: st) h Q :=
  WP_h hc rfl (by show math 1 h (.int y :: .int x :: st) = _; simp [math, h8])
theorem WH_minJ {tl : List Nat} {x y : Int64} (hc : ct m pc = some (.invokestatic ix, 1, 2 :: tl)) (h8 : (st.map fun v => v.category).sum ≤ 8) : WP m pc ls (.long y :: .long x :: st) h Q ↔ WP m (pc + 3) ls (.long (if y < x then y else x) :: st) h Q :=
  WP_h hc rfl (by show math 2 h (.long y :: .long x :: st) = _; simp [math, h8])
theorem WR_v {info : List Nat} (hc : ct m pc = some (.return_, 2, info)) : WP m pc ls [] h Q ↔ Q none h := by
  rw [WP_2 hc]
  simp [retv]
theorem WR_i {x : Int32} (hc : ct m pc = some (.ireturn, 2, [0])) : WP m pc ls [.int x] h Q ↔ Q (some (.int x)) h := by
  rw [WP_2 hc]
  simp [retv]
theorem WR_z {x : Int32} (hc : ct m pc = some (.ireturn, 2, [1])) (hx : x = 0 ∨ x = 1) : WP m pc ls [.int x] h Q ↔ Q (some (.int x)) h := by
  rw [WP_2 hc]
  simp [retv, hx]
theorem WR_l {x : Int64} {info : List Nat} (hc : ct m pc = some (.lreturn, 2, info)) : WP m pc ls [.long x] h Q ↔ Q (some (.long x)) h := by
  rw [WP_2 hc]
  simp [retv]
theorem WR_a {x : Nat} {info : List Nat} (hc : ct m pc = some (.areturn, 2, info)) : WP m pc ls [.ref x] h Q ↔ Q (some (.ref x)) h := by
  rw [WP_2 hc]
  simp [retv]
theorem WC_0 {i : Instr} {c0 n t : Nat} {tl : List Nat} {av rest : List Value} (hc : ct m pc = some (i, 3, c0 :: n :: 0 :: t :: tl)) (h1 : n ≤ st.length) (h2 : ((st.drop n).map fun v => v.category).sum ≤ 8) (h3 : (st.take n).reverse = av) (h4 : st.drop n = rest) : WP m pc ls st h Q ↔ WPM c0 av h (fun r h' => WP m (pc + 3) ls (r.toList ++ rest) h' Q) := by
  refine WP_3 hc ?_
  simp only [popc, h3, h4] at h2 ⊢
  have h5 : rcv 0 t h av = true := by
    unfold rcv
    split <;> simp
  rw [if_pos ⟨h1, h2, h5⟩]
theorem WC_1 {i : Instr} {c0 n t : Nat} {tl : List Nat} {as rest : List Value} (hc : ct m pc = some (i, 3, c0 :: n :: 1 :: t :: tl)) (h1 : n ≤ st.length) (h2 : ((st.drop n).map fun v => v.category).sum ≤ 8) (h3 : (st.take n).reverse = .ref a :: as) (h4 : st.drop n = rest) (ht : hT h a = t) : WP m pc ls st h Q ↔ WPM c0 (.ref a :: as) h (fun r h' => WP m (pc + 3) ls (r.toList ++ rest) h' Q) := by
  refine WP_3 hc ?_
  simp only [popc, h3, h4] at h2 ⊢
  have h5 : rcv 1 t h (.ref a :: as) = true := by simp [rcv, ht]
  rw [if_pos ⟨h1, h2, h5⟩]
theorem WC_2 {i : Instr} {c0 n t : Nat} {tl : List Nat} {as rest : List Value} (hc : ct m pc = some (i, 3, c0 :: n :: 2 :: t :: tl)) (h1 : n ≤ st.length) (h2 : ((st.drop n).map fun v => v.category).sum ≤ 8) (h3 : (st.take n).reverse = .ref a :: as) (h4 : st.drop n = rest) (ht : a ≠ 0) : WP m pc ls st h Q ↔ WPM c0 (.ref a :: as) h (fun r h' => WP m (pc + 3) ls (r.toList ++ rest) h' Q) := by
  refine WP_3 hc ?_
  simp only [popc, h3, h4] at h2 ⊢
  have h5 : rcv 2 t h (.ref a :: as) = true := by simp [rcv, ht]
  rw [if_pos ⟨h1, h2, h5⟩]
end WRows

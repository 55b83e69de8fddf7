/-! ===== the reference's spare ===== -/
def mkp (L : List Act) (N b : Nat) (e : Nat → Bool) : List Nat → Nat → Nat
  | [], s => if e s = true then 0 else 100
  | p :: l, s => match (if pc s ≤ b then acN L N b p s else none) with
    | none => mkp L N b e l s
    | some t => if mkp L N b e l t + 1 < mkp L N b e l s then mkp L N b e l t + 1 else mkp L N b e l s
section Mk
variable {L : List Act} {N b : Nat} {e : Nat → Bool}
theorem mkp_le : ∀ (l : List Nat) (s : Nat), mkp L N b e l s ≤ 100 := by
  intro l
  induction l with
  | nil =>
    intro s
    show (if e s = true then 0 else 100) ≤ 100
    split <;> omega
  | cons p l ih =>
    intro s
    show (match (if pc s ≤ b then acN L N b p s else none) with
      | none => mkp L N b e l s
      | some t => if mkp L N b e l t + 1 < mkp L N b e l s then mkp L N b e l t + 1 else mkp L N b e l s) ≤ 100
    have := ih s
    split
    · exact this
    · next t _ =>
      by_cases q : mkp L N b e l t + 1 < mkp L N b e l s
      · rw [if_pos q]
        omega
      · rw [if_neg q]
        exact this
theorem kpm (A B m : Nat) (k1 : A ≤ m ∨ A = 1000) (k2 : B ≤ m ∨ B = 1000) (hm : m ≤ 60) : (if (if B < 1000 then B else 100) + 1 < (if A < 1000 then A else 100) then (if B < 1000 then B else 100) + 1 else (if A < 1000 then A else 100)) = if (if B < 1000 ∧ B < A then B + 1 else A) < 1000 then (if B < 1000 ∧ B < A then B + 1 else A) else 100 := by
  by_cases q1 : B < 1000
  · by_cases q2 : A < 1000
    · rw [if_pos q1, if_pos q2]
      by_cases q3 : B < A
      · rw [if_pos (show B < 1000 ∧ B < A from ⟨q1, q3⟩), if_pos (show B + 1 < 1000 by omega)]
        by_cases q4 : B + 1 < A
        · rw [if_pos q4]
        · rw [if_neg q4]
          omega
      · rw [if_neg (show ¬ (B < 1000 ∧ B < A) from fun z => q3 z.2), if_pos q2, if_neg (show ¬ B + 1 < A by omega)]
    · rw [if_pos q1, if_neg q2, if_pos (show B < 1000 ∧ B < A from ⟨q1, by omega⟩), if_pos (show B + 1 < 1000 by omega), if_pos (show B + 1 < 100 by omega)]
  · rw [if_neg q1, if_neg (show ¬ (B < 1000 ∧ B < A) from fun z => q1 z.1)]
    by_cases q2 : A < 1000
    · rw [if_pos q2, if_neg (show ¬ 100 + 1 < A by omega)]
    · rw [if_neg q2, if_neg (show ¬ 100 + 1 < 100 by omega)]
theorem mkp_kp : ∀ (l : List Nat) (s : Nat), l.length ≤ 60 → pc s ≤ b → mkp L N b e l s = if kp L N b e l s < 1000 then kp L N b e l s else 100 := by
  intro l
  induction l with
  | nil =>
    intro s _ _
    show (if e s = true then 0 else 100) = if (if e s = true then 0 else 1000) < 1000 then (if e s = true then 0 else 1000) else 100
    by_cases q : e s = true
    · simp [q]
    · simp [q]
  | cons p l ih =>
    intro s hl hs
    have hl' : l.length ≤ 60 := by rw [List.length_cons] at hl; omega
    have hk : kp L N b e (p :: l) s = match acN L N b p s with
      | none => kp L N b e l s
      | some t => if kp L N b e l t < 1000 ∧ kp L N b e l t < kp L N b e l s then kp L N b e l t + 1 else kp L N b e l s := rfl
    have hm : mkp L N b e (p :: l) s = match (if pc s ≤ b then acN L N b p s else none) with
      | none => mkp L N b e l s
      | some t => if mkp L N b e l t + 1 < mkp L N b e l s then mkp L N b e l t + 1 else mkp L N b e l s := rfl
    rw [if_pos hs] at hm
    rw [hm, hk]
    cases hac : acN L N b p s with
    | none =>
      dsimp only
      exact ih s hl' hs
    | some t =>
      dsimp only
      have ht := (acN_lt hac).2
      rw [ih s hl' hs, ih t hl' ht]
      have k1 := kp_le (L := L) (N := N) (b := b) (e := e) l s
      have k2 := kp_le (L := L) (N := N) (b := b) (e := e) l t
      exact kpm _ _ _ k1 k2 hl'
/-- the reference's look at a place is the class's -/
theorem mkp_use {p : Nat} {l : List Nat} {s t : Nat} (hl : (p :: l).length ≤ 60) (hs : pc s ≤ b) (hk : kp L N b e (p :: l) s < 1000) (hac : acN L N b p s = some t) : (mkp L N b e l t + 1 = mkp L N b e (p :: l) s) ↔ kpU L N b e p l s = true := by
  have hl' : l.length ≤ 60 := by rw [List.length_cons] at hl; omega
  have ht := (acN_lt hac).2
  have hkc := kp_cons (L := L) (N := N) (b := b) (e := e) (p := p) (l := l) (s := s)
  have hu : kpU L N b e p l s = true ↔ kp L N b e l t < 1000 ∧ kp L N b e l t < kp L N b e l s := by
    unfold kpU
    rw [hac]
    exact decide_eq_true_iff
  rw [hac] at hkc
  change kp L N b e (p :: l) s = if kpU L N b e p l s = true then kp L N b e l t + 1 else kp L N b e l s at hkc
  rw [mkp_kp (p :: l) s hl hs, if_pos hk, mkp_kp l t hl' ht]
  have k2 := kp_le (L := L) (N := N) (b := b) (e := e) l t
  have k3 := kp_le (L := L) (N := N) (b := b) (e := e) (p :: l) s
  by_cases q : kpU L N b e p l s = true
  · rw [if_pos q] at hkc
    have := hu.mp q
    rw [if_pos this.1, hkc]
    exact ⟨fun _ => q, fun _ => rfl⟩
  · rw [if_neg q] at hkc
    constructor
    · intro z
      exfalso
      by_cases q1 : kp L N b e l t < 1000
      · rw [if_pos q1] at z
        exact q (hu.mpr ⟨q1, by omega⟩)
      · rw [if_neg q1] at z
        omega
    · exact fun z => absurd z q
end Mk
theorem mul_ix (a s : Nat) : (16384 : Int32) * nI a + nI s = nI (16384 * a + s) := by
  rw [← nI_add, ← pk_mul]
  rfl
def mqA (a : Nat) : Prop := a = 79 ∨ a = 97 ∨ a = 98
section Sp
variable {h : AH} {n w wi b : Nat} {P : Nat → Nat} {pl : List Nat} {Q : Option Value → AH → Prop}
/-- the rows from c on hold what is kept -/
def KpR (n w wi b : Nat) (P : Nat → Nat) (pl : List Nat) (f : Nat → Int32) (c : Nat) : Prop := ∀ i, c ≤ i → i ≤ pl.length → ∀ s, s < 2 ^ n → f (16384 * i + s) = nI (mkp (actsOf n P w) (2 ^ n) b (isEndB w wi) (pl.drop i) s)
theorem kp_in {i : Nat} (ms : MS0 h) (nt : MNt h n P wi) (po : PartsOK n P) (wb : MWB h w b) (hwi : wi < 2 ^ n) (mp : MPl h pl) (hi : i ≤ pl.length)
    (kk : ∀ f y5 y6 y7, KpR n w wi b P pl f i → WP 215 38 [.ref 67, .int (nI w), .int (nI b), .int (nI (2 ^ n)), .int (mkI i), y5, y6, y7] [] (setI h 97 f) Q) :
    ∀ d s f y6 y7, 2 ^ n - s = d → s ≤ 2 ^ n → KpR n w wi b P pl f (i + 1) → (∀ s', s' < s → f (16384 * i + s') = nI (mkp (actsOf n P w) (2 ^ n) b (isEndB w wi) (pl.drop i) s')) → WP 215 46 [.ref 67, .int (nI w), .int (nI b), .int (nI (2 ^ n)), .int (nI i), .int (nI s), y6, y7] [] (setI h 97 f) Q := by
  obtain ⟨p1, p2, p3, p4⟩ := mp
  have hn := po.1
  have hN9 : 2 ^ n ≤ 16384 := p2_le (n := 14) hn
  have hwi9 := s_lt hn hwi
  have hr := hs_setI h 97
  have e97 : ∀ f, hI (setI h 97 f) 97 = f := fun f => by rw [hI_setI, if_pos rfl]
  have e49 : ∀ f, hI (setI h 97 f) 67 49 = nI pl.length := fun f => p1
  have e95 : ∀ f, hI (setI h 97 f) 95 = hI h 95 := fun f => rfl
  intro d
  induction d with
  | zero =>
    intro s f y6 y7 hd hs kr hrow
    have hle : nI (2 ^ n) ≤ nI s := nI_le (by omega) (by omega)
    rw [w215_46]
    simp only [w215_a, w215_c, w215_d, hle, nI_mk, zz]
    refine kk f _ _ _ fun i' h1 h2 s' hs' => ?_
    by_cases z : i' = i
    · rw [z]
      exact hrow s' (by omega)
    · exact kr i' (by omega) h2 s' hs'
  | succ d ih =>
    intro s f y6 y7 hd hs kr hrow
    have hsN : s < 2 ^ n := by omega
    have hle : ¬ nI (2 ^ n) ≤ nI s := nI_ge hsN (by omega)
    have heq : (nI i = nI pl.length) ↔ i = pl.length := nI_eq (by omega) (by omega)
    have cst : (nI (16384 * i + s)).toNatClampNeg = 16384 * i + s := nI_clamp (by omega)
    have ist : inb (nI (16384 * i + s)) 999424 = true := inb_nI (by omega) (by decide)
    have hv8 : ∀ v, v ≤ 100 → (nI v).toInt8.toInt32 = nI v := fun v hv => i8_sm v (by omega)
    have fin : ∀ v y6 y7, v = mkp (actsOf n P w) (2 ^ n) b (isEndB w wi) (pl.drop i) s → WP 215 46 [.ref 67, .int (nI w), .int (nI b), .int (nI (2 ^ n)), .int (nI i), .int (nI (s + 1)), y6, y7] [] (setI h 97 (va_up f (16384 * i + s) (nI v))) Q := fun v y6 y7 hv => by
      refine ih (s + 1) _ y6 y7 (by omega) (by omega) (fun i' h1 h2 s' hs' => ?_) (fun s' hs' => ?_)
      · rw [up_at, if_neg (by omega)]
        exact kr i' h1 h2 s' hs'
      · rw [up_at]
        by_cases z : s' = s
        · rw [if_pos (by omega), hv, z]
        · rw [if_neg (by omega)]
          exact hrow s' (by omega)
    have hml := mkp_le (L := actsOf n P w) (N := 2 ^ n) (b := b) (e := isEndB w wi) (pl.drop i) s
    rw [w215_46]
    by_cases q : i = pl.length
    · have hdr : pl.drop i = [] := List.drop_of_length_le (by omega)
      have hend := fun (f : Nat → Int32) (Q : Option Value → AH → Prop) => s179 (h := setI h 97 f) (Q := Q) (s := s) ms wb.1 wb.2.2.1 nt.2.1 (by omega) (show wi < 65536 by omega)
      have m0 : mkp (actsOf n P w) (2 ^ n) b (isEndB w wi) (pl.drop i) s = if isEndB w wi s = true then 0 else 100 := by rw [hdr]; rfl
      have z0 : (0 : Int32).toInt8.toInt32 = nI 0 := by decide +kernel
      have z1 : (nI 0).toInt8.toInt32 = nI 0 := by decide +kernel
      have z100 : (100 : Int32).toInt8.toInt32 = nI 100 := by decide +kernel
      have z101 : (nI 100).toInt8.toInt32 = nI 100 := by decide +kernel
      by_cases q2 : isEndP w wi s
      · rw [if_pos q2] at m0
        simp only [w215_a, w215_b, w215_c, w215_d, hle, hr, ms, mz, e49, heq, eq_true q, hend, if_pos q2, mul_ix, cst, ist, z0, z1, sI_setI, zz, nI_1]
        exact fin 0 _ _ m0.symm
      · rw [if_neg q2] at m0
        simp only [w215_a, w215_b, w215_c, w215_d, hle, hr, ms, mz, e49, heq, eq_true q, hend, if_neg q2, mul_ix, cst, ist, z100, z101, sI_setI, zz, nI_1]
        exact fin 100 _ _ m0.symm
    · have hil : i < pl.length := by omega
      have hdr := List.drop_eq_getElem_cons hil
      have hpi := p2 i pl[i] (List.getElem?_eq_getElem hil)
      have hpN := p4 pl[i] (List.getElem_mem hil)
      generalize pl[i] = p at hdr hpi hpN
      have c1 : (nI i).toNatClampNeg = i := nI_clamp (by omega)
      have i1 : inb (nI i) 60 = true := inb_nI (by omega) (by decide)
      have crs : (nI (16384 * (i + 1) + s)).toNatClampNeg = 16384 * (i + 1) + s := nI_clamp (by omega)
      have irs : inb (nI (16384 * (i + 1) + s)) 999424 = true := inb_nI (by omega) (by decide)
      have hrs := kr (i + 1) (Nat.le_refl _) (by omega) s hsN
      have hmls := mkp_le (L := actsOf n P w) (N := 2 ^ n) (b := b) (e := isEndB w wi) (pl.drop (i + 1)) s
      have m0 : mkp (actsOf n P w) (2 ^ n) b (isEndB w wi) (pl.drop i) s = match (if pc s ≤ b then acN (actsOf n P w) (2 ^ n) b p s else none) with
        | none => mkp (actsOf n P w) (2 ^ n) b (isEndB w wi) (pl.drop (i + 1)) s
        | some t => if mkp (actsOf n P w) (2 ^ n) b (isEndB w wi) (pl.drop (i + 1)) t + 1 < mkp (actsOf n P w) (2 ^ n) b (isEndB w wi) (pl.drop (i + 1)) s then mkp (actsOf n P w) (2 ^ n) b (isEndB w wi) (pl.drop (i + 1)) t + 1 else mkp (actsOf n P w) (2 ^ n) b (isEndB w wi) (pl.drop (i + 1)) s := by rw [hdr]; rfl
      have hbt := fun (f : Nat → Int32) (Q : Option Value → AH → Prop) => s152 (Q := Q) (h := setI h 97 f) (s := s) (by omega)
      have hpb : (nI (pc s) ≤ nI b) ↔ pc s ≤ b := nI_leI (by have := pc_le s; omega) (by have := wb.2.2.2; omega)
      have v8s := hv8 (mkp (actsOf n P w) (2 ^ n) b (isEndB w wi) (pl.drop (i + 1)) s) hmls
      by_cases q2 : pc s ≤ b
      · rw [if_pos q2] at m0
        have haft := fun (f : Nat → Int32) (Q : Option Value → AH → Prop) => s178p (h := setI h 97 f) (Q := Q) ms nt po wb hpN hsN q2
        cases hac : acN (actsOf n P w) (2 ^ n) b p s with
        | none =>
          rw [hac] at m0
          simp only [w215_a, w215_b, w215_c, w215_d, hle, hr, ms, mz, e49, e95, e97, heq, q, nI_1, mul_ix, crs, irs, hrs, hbt, hpb, q2, c1, i1, hpi, haft, hac, oI_none, cst, ist, v8s, sI_setI, zz]
          exact fin _ _ _ m0.symm
        | some t =>
          rw [hac] at m0
          dsimp only at m0
          obtain ⟨htN, htp⟩ := acN_lt hac
          have hneg : ¬ nI t < 0 := nI_pos (by omega)
          have crt : (nI (16384 * (i + 1) + t)).toNatClampNeg = 16384 * (i + 1) + t := nI_clamp (by omega)
          have irt : inb (nI (16384 * (i + 1) + t)) 999424 = true := inb_nI (by omega) (by decide)
          have hrt := kr (i + 1) (Nat.le_refl _) (by omega) t htN
          have hmlt := mkp_le (L := actsOf n P w) (N := 2 ^ n) (b := b) (e := isEndB w wi) (pl.drop (i + 1)) t
          generalize hA : mkp (actsOf n P w) (2 ^ n) b (isEndB w wi) (pl.drop (i + 1)) s = A at hrs hmls m0 v8s
          generalize mkp (actsOf n P w) (2 ^ n) b (isEndB w wi) (pl.drop (i + 1)) t = B at hrt hmlt m0
          have hcmp : (nI A ≤ nI (B + 1)) ↔ A ≤ B + 1 := nI_leI (by omega) (by omega)
          by_cases q3 : A ≤ B + 1
          · rw [if_neg (by omega)] at m0
            simp only [w215_a, w215_b, w215_c, w215_d, hle, hr, ms, mz, e49, e95, e97, heq, q, nI_1, mul_ix, crs, irs, hrs, hbt, hpb, q2, c1, i1, hpi, haft, hac, oI_some, hneg, crt, irt, hrt, hcmp, q3, cst, ist, v8s, sI_setI, zz]
            exact fin _ _ _ m0.symm
          · rw [if_pos (by omega)] at m0
            have v8t := hv8 (B + 1) (by omega)
            simp only [w215_a, w215_b, w215_c, w215_d, hle, hr, ms, mz, e49, e95, e97, heq, q, nI_1, mul_ix, crs, irs, hrs, hbt, hpb, q2, c1, i1, hpi, haft, hac, oI_some, hneg, crt, irt, hrt, hcmp, q3, cst, ist, v8t, sI_setI, zz]
            exact fin _ _ _ m0.symm
      · rw [if_neg q2] at m0
        simp only [w215_a, w215_b, w215_c, w215_d, hle, hr, ms, mz, e49, e95, e97, heq, q, nI_1, mul_ix, crs, irs, hrs, hbt, hpb, q2, cst, ist, v8s, sI_setI, zz]
        exact fin _ _ _ m0.symm
end Sp

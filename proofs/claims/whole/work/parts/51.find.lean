/-! ===== Acts.before, Acts.find ===== -/
/-- what was full ahead of an act -/
def bef (N b : Nat) (a : Act) (t : Nat) : Option Nat := if t &&& (aGn a ||| aLs a) = aGn a then (if (sdf t (aGn a) ||| aLs a) < N ∧ (sdf t (aGn a) ||| aLs a) &&& aNd a = aNd a ∧ pc (sdf t (aGn a) ||| aLs a) ≤ b then some (sdf t (aGn a) ||| aLs a) else none) else none
theorem s8 {j : Nat} {h : AH} (hf : F_acts h) (hj : j < 112) (f b : Int32) (Q : Option Value → AH → Prop) : WPM 8 [.ref 36, .int (nI j), .int f, .int b] h Q ↔
    Q (some (.int (if f &&& (hI h 40 j ||| hI h 41 j) = hI h 40 j then (if ((f &&& (hI h 40 j ^^^ -1)) ||| hI h 41 j) < hI h 36 1 ∧ ((f &&& (hI h 40 j ^^^ -1)) ||| hI h 41 j) &&& hI h 39 j = hI h 39 j ∧ bcI ((f &&& (hI h 40 j ^^^ -1)) ||| hI h 41 j) ≤ b then ((f &&& (hI h 40 j ^^^ -1)) ||| hI h 41 j) else -1) else -1))) h := by
  have h1 : (nI j).toNatClampNeg = j := nI_clamp (by omega)
  have h2 : inb (nI j) 112 = true := inb_nI hj (by decide)
  simp only [we8, w8_a, w8_b, hf, h1, h2, true_or, s218, s141, Option.toList_some, List.cons_append, List.nil_append]
  generalize (f &&& (hI h 40 j ^^^ -1)) ||| hI h 41 j = t
  by_cases q : f &&& (hI h 40 j ||| hI h 41 j) = hI h 40 j
  · by_cases q2 : t < hI h 36 1
    · have q3 : ¬ hI h 36 1 ≤ t := Int32.not_le.mpr q2
      by_cases q6 : t &&& hI h 39 j = hI h 39 j
      · by_cases q4 : bcI t ≤ b
        · have q5 : ¬ b < bcI t := Int32.not_lt.mpr q4
          simp [q, q2, q3, q4, q5, q6]
        · have q5 : b < bcI t := Int32.not_le.mp q4
          simp [q, q2, q3, q4, q5, q6]
      · simp [q, q2, q3, q6]
    · have q3 : hI h 36 1 ≤ t := Int32.not_lt.mp q2
      simp [q, q2, q3]
  · simp [q]
theorem s8N {j N b t : Nat} {a : Act} {h : AH} (hf : F_acts h) (hj : j < 112) (ha : actHeld h j a) (hsm : actSm a) (hN : hI h 36 1 = nI N) (hN2 : N ≤ 65536) (ht : t < 65536) (hb : b < 65536) (Q : Option Value → AH → Prop) :
    WPM 8 [.ref 36, .int (nI j), .int (nI t), .int (nI b)] h Q ↔ Q (some (.int (oI (bef N b a t)))) h := by
  obtain ⟨-, -, h3, h4, h5⟩ := ha
  obtain ⟨m1, m2, m3⟩ := hsm
  have k3 : (sdf t (aGn a) ||| aLs a) < 65536 := or_lt16 (Nat.lt_of_le_of_lt (sdf_le _ _) ht) m3
  have k4 : t &&& (aGn a ||| aLs a) < 65536 := Nat.lt_of_le_of_lt Nat.and_le_left ht
  have k5 : (sdf t (aGn a) ||| aLs a) &&& aNd a < 65536 := Nat.lt_of_le_of_lt Nat.and_le_left k3
  rw [s8 hf hj, h3, h4, h5, hN, nI_or, nI_and, nI_sdf, nI_or, nI_and, bc_pc k3]
  have e1 : (nI (t &&& (aGn a ||| aLs a)) = nI (aGn a)) ↔ t &&& (aGn a ||| aLs a) = aGn a := nI_eq (by omega) (by omega)
  have e2 : (nI (sdf t (aGn a) ||| aLs a) < nI N) ↔ (sdf t (aGn a) ||| aLs a) < N := nI_ltI (by omega) (by omega)
  have e3 : (nI (pc (sdf t (aGn a) ||| aLs a)) ≤ nI b) ↔ pc (sdf t (aGn a) ||| aLs a) ≤ b := nI_leI (by have := pc_le (sdf t (aGn a) ||| aLs a); omega) (by omega)
  have e4 : (nI ((sdf t (aGn a) ||| aLs a) &&& aNd a) = nI (aNd a)) ↔ (sdf t (aGn a) ||| aLs a) &&& aNd a = aNd a := nI_eq (by omega) (by omega)
  unfold bef
  by_cases q1 : t &&& (aGn a ||| aLs a) = aGn a
  · rw [if_pos (e1.mpr q1), if_pos q1]
    by_cases q2 : (sdf t (aGn a) ||| aLs a) < N ∧ (sdf t (aGn a) ||| aLs a) &&& aNd a = aNd a ∧ pc (sdf t (aGn a) ||| aLs a) ≤ b
    · rw [if_pos ⟨e2.mpr q2.1, e4.mpr q2.2.1, e3.mpr q2.2.2⟩, if_pos q2]
      rfl
    · rw [if_neg (fun z => q2 ⟨e2.mp z.1, e4.mp z.2.1, e3.mp z.2.2⟩), if_neg q2]
      rfl
  · rw [if_neg (fun z => q1 (e1.mp z)), if_neg q1]
    rfl
/-- where an act of that number stands -/
def findA : List Act → Nat → Option Nat
  | [], _ => none
  | a :: L, k => if a.1 = k then some 0 else (findA L k).map (· + 1)
theorem s6_l {h : AH} {N k : Nat} {L : List Act} {Q : Option Value → AH → Prop} (hf : F_acts h) (hA : ActsHold h N L) (hl : L.length ≤ 112) (hk : k < 1000) (hnum : ∀ a ∈ L, a.1 < 1000)
    (kk : Q (some (.int (oI (findA L k)))) h) : ∀ d x, L.length - x = d → x ≤ L.length → (findA L k = (findA (L.drop x) k).map (· + x)) → WP 6 2 [.ref 36, .int (nI k), .int (nI x)] [] h Q := by
  intro d
  induction d with
  | zero =>
    intro x hd hx he
    have hle : nI L.length ≤ nI x := nI_le (by omega) (by omega)
    have hdr : L.drop x = [] := List.drop_eq_nil_of_le (by omega)
    rw [hdr] at he
    rw [he] at kk
    rw [w6_2]
    simp only [w6, hf, hA.1, hle, true_implies, not_true_eq_false, false_implies, and_true]
    exact kk
  | succ d ih =>
    intro x hd hx he
    have hxl : x < L.length := by omega
    have hle : ¬ nI L.length ≤ nI x := nI_ge hxl (by omega)
    have hcl : (nI x).toNatClampNeg = x := nI_clamp (by omega)
    have hib : inb (nI x) 112 = true := inb_nI (by omega) (by decide)
    have hdr : L.drop x = L[x] :: L.drop (x + 1) := List.drop_eq_getElem_cons hxl
    have hh := (hA.2.1 x L[x] (List.getElem?_eq_getElem hxl)).1
    have h9 := hnum L[x] (List.getElem_mem hxl)
    rw [hdr] at he
    have he' : findA L k = (if L[x].1 = k then some 0 else (findA (L.drop (x + 1)) k).map (· + 1)).map (· + x) := he
    rw [w6_2]
    by_cases q : L[x].1 = k
    · have hq : nI L[x].1 = nI k := by rw [q]
      simp only [w6, hf, hA.1, hle, hcl, hib, hh, hq, true_or, true_implies, not_true_eq_false, not_false_eq_true, false_implies, true_and]
      rw [if_pos q] at he'
      rw [he'] at kk
      have : oI ((some 0).map (· + x)) = nI x := by
        show nI (0 + x) = nI x
        rw [Nat.zero_add]
      rw [this] at kk
      exact kk
    · have hq : ¬ nI L[x].1 = nI k := fun z => q (nI_inj (by omega) (by omega) z)
      simp only [w6, hf, hA.1, hle, hcl, hib, hh, hq, true_or, true_implies, not_true_eq_false, not_false_eq_true, false_implies, and_true, true_and, nI_1]
      refine ih (x + 1) (by omega) (by omega) ?_
      rw [if_neg q] at he'
      rw [he', Option.map_map]
      congr 1
      funext y
      show y + 1 + x = y + (x + 1)
      omega
theorem s6 {h : AH} {N k : Nat} {L : List Act} {Q : Option Value → AH → Prop} (hf : F_acts h) (hA : ActsHold h N L) (hl : L.length ≤ 112) (hk : k < 1000) (hnum : ∀ a ∈ L, a.1 < 1000) (kk : Q (some (.int (oI (findA L k)))) h) : WPM 6 [.ref 36, .int (nI k)] h Q := by
  rw [we6]
  simp only [w6]
  exact s6_l hf hA hl hk hnum kk L.length 0 rfl (Nat.zero_le _) (by rw [List.drop_zero]; cases findA L k <;> rfl)

/-! ===== the reference's promised ===== -/
def sw (s : Nat) : Nat := 256 * (s % 256) + s / 256
theorem sw_cod {f o : Nat} (hf : f < 256) : sw (cod f o) = 256 * f + o := by
  unfold sw
  rw [cod_lo hf, cod_hi hf]
theorem sw_sw {m : Nat} (h : m < 65536) : sw (sw m) = m := by
  unfold sw
  omega
theorem sw_lt {m : Nat} (h : m < 65536) : sw m < 65536 := by
  unfold sw
  omega
theorem sw_inj {a c : Nat} (ha : a < 65536) (hc : c < 65536) (h : sw a = sw c) : a = c := by
  rw [← sw_sw ha, ← sw_sw hc, h]
theorem mul256 (a c : Nat) : (256 : Int32) * nI a + nI c = nI (256 * a + c) := by
  rw [← nI_add, ← pk_mul]
  rfl
def PmH (h : AH) (dp dq : Nat → Int32) : AH := setI (setI h 90 dp) 91 dq
theorem PmH_r (h : AH) : ∀ dp dq, hT (PmH h dp dq) = hT h ∧ hL (PmH h dp dq) = hL h ∧ hR (PmH h dp dq) = hR h ∧ hI (PmH h dp dq) 90 = dp ∧ hI (PmH h dp dq) 91 = dq ∧ hI (PmH h dp dq) 70 = hI h 70 ∧ hI (PmH h dp dq) 72 = hI h 72 ∧ hI (PmH h dp dq) 73 = hI h 73 ∧ hI (PmH h dp dq) 74 = hI h 74 ∧ (∀ k v, sI (PmH h dp dq) 90 k v = PmH h (va_up dp k v) dq) ∧ ∀ k v, sI (PmH h dp dq) 91 k v = PmH h dp (va_up dq k v) := by
  intro dp dq
  refine ⟨rfl, rfl, rfl, rfl, rfl, rfl, rfl, rfl, rfl, fun k v => ?_, fun k v => sI_setI _ _ _ _ _⟩
  unfold PmH
  rw [sI_setI_o (by decide), sI_setI]
/-- the rows hold the states -/
def PmR (qs : List Nat) (dp dq : Nat → Int32) : Prop := (∀ j s, qs[j]? = some s → dq j = nI (sw s)) ∧ ∀ m, m < 65536 → dp m = if sw m ∈ qs then 0 else nI 1000000000
def Pm6 (qs : List Nat) : Prop := qs.Nodup ∧ ∀ s, s ∈ qs → s < 65536
theorem Pm6.len {qs : List Nat} (h : Pm6 qs) : qs.length ≤ 65536 := nodup_len 65536 qs h.1 h.2
theorem Pm6.ad {qs : List Nat} (h : Pm6 qs) {s : Nat} (hs : s < 65536) : Pm6 (adj qs s) := by
  show Pm6 (if s ∈ qs then qs else qs ++ [s])
  split
  · exact h
  · next q =>
    refine ⟨?_, fun x hx => ?_⟩
    · rw [List.nodup_append]
      refine ⟨h.1, by simp, fun x hx y hy e => ?_⟩
      have : y = s := by simpa using hy
      rw [this] at e
      exact q (by rw [← e]; exact hx)
    · rcases List.mem_append.mp hx with z | z
      · exact h.2 x z
      · have : x = s := by simpa using z
        rw [this]
        exact hs
section Pm
variable {h : AH} {n b wi : Nat} {P : Nat → Nat} {Q : Option Value → AH → Prop}
theorem s207 {qs : List Nat} {s : Nat} {dp dq : Nat → Int32} (ms : MS0 h) (p6 : Pm6 qs) (pr : PmR qs dp dq) (hs : s < 65536)
    (k : ∀ dp' dq', PmR (adj qs s) dp' dq' → Q (some (.int (nI (adj qs s).length))) (PmH h dp' dq')) : WPM 207 [.ref 67, .int (nI (sw s)), .int (nI qs.length)] (PmH h dp dq) Q := by
  have hr := PmH_r h
  have hsw := sw_lt hs
  have hlen := p6.len
  have c1 : (nI (sw s)).toNatClampNeg = sw s := nI_clamp (by omega)
  have i1 : inb (nI (sw s)) 65536 = true := inb_nI hsw (by decide)
  have hd := pr.2 (sw s) hsw
  rw [sw_sw hs] at hd
  rw [we207]
  by_cases q : s ∈ qs
  · rw [if_pos q] at hd
    have e : adj qs s = qs := by unfold adj; rw [if_pos q]
    rw [e] at k
    simp only [w207, hr, ms, c1, i1, hd, zz]
    exact k dp dq pr
  · rw [if_neg q] at hd
    have e : adj qs s = qs ++ [s] := by unfold adj; rw [if_neg q]
    rw [e] at k
    have hne : ¬ nI 1000000000 = 0 := by decide +kernel
    have c2 : (nI qs.length).toNatClampNeg = qs.length := nI_clamp (by omega)
    have i2 : inb (nI qs.length) 131072 = true := inb_nI (by omega) (by decide)
    have hl : (qs ++ [s]).length = qs.length + 1 := by simp
    simp only [w207, hr, ms, c1, i1, c2, i2, hd, hne, zz, nI_1]
    have := k (va_up dp (sw s) 0) (va_up dq qs.length (nI (sw s))) ⟨fun j x hj => ?_, fun m hm => ?_⟩
    · rw [hl] at this
      exact this
    · rw [up_at]
      by_cases z : j < qs.length
      · rw [List.getElem?_append_left z] at hj
        rw [if_neg (by omega)]
        exact pr.1 j x hj
      · rw [List.getElem?_append_right (by omega)] at hj
        have hx : x = s := by simpa using List.mem_of_getElem? hj
        have hjl : j - qs.length = 0 := by
          rcases Nat.eq_zero_or_pos (j - qs.length) with y | y
          · exact y
          · rw [List.getElem?_eq_none (by simp; omega)] at hj
            cases hj
        rw [if_pos (by omega), hx]
    · rw [up_at]
      by_cases z : m = sw s
      · rw [if_pos z, if_pos (by rw [z, sw_sw hs]; simp)]
      · rw [if_neg z, pr.2 m hm]
        have hms : sw m ≠ s := fun y => z (by rw [← y, sw_sw hm])
        simp [hms]
/-- the reference's order of what comes -/
def mpT (P : Nat → Nat) (f o b x : Nat) : List Nat := if f.testBit x = true then [cod (sdf f (2 ^ x)) o] else if o.testBit x = true then (if (f ||| o) &&& P x = P x then [cod (f ||| 2 ^ x) (sdf o (2 ^ x))] else []) else if pc f + pc o < b then (if (f ||| o) &&& P x = P x then [cod (f ||| 2 ^ x) o, cod f (o ||| 2 ^ x)] else [cod f (o ||| 2 ^ x)]) else []
theorem pc_disj {f o : Nat} (h : f &&& o = 0) : pc (f ||| o) = pc f + pc o := pcn_disj h 16
theorem mem_mpT {P : Nat → Nat} {f o b x t : Nat} (h : f &&& o = 0) : t ∈ mpT P f o b x ↔ t ∈ prT P f o b x := by
  unfold mpT prT
  rw [pc_disj h]
  by_cases q1 : f.testBit x = true
  · rw [if_pos q1, if_pos q1]
  · rw [if_neg q1, if_neg q1]
    by_cases q2 : o.testBit x = true
    · rw [if_pos q2, if_pos q2]
    · rw [if_neg q2, if_neg q2]
      by_cases q3 : pc f + pc o < b
      · rw [if_pos q3, if_pos q3]
        by_cases q4 : (f ||| o) &&& P x = P x
        · rw [if_pos q4, if_pos q4]
          simp only [List.mem_cons, List.not_mem_nil, or_false]
          exact or_comm
        · rw [if_neg q4, if_neg q4]
      · rw [if_neg q3, if_neg q3]
theorem cod_lt {f o : Nat} (hf : f < 256) (ho : o < 256) : cod f o < 65536 := by unfold cod; omega
theorem pm_in {f o i : Nat} (ms : MS0 h) (nt : MNt h n P wi) (po : PartsOK n P) (hn8 : n ≤ 8) (hb : b ≤ 14) (hf : f < 2 ^ n) (ho : o < 2 ^ n) {qs0 : List Nat}
    (kk : ∀ qs dp dq y6 y7 y8 y9, qs = ((List.range n).flatMap (mpT P f o b)).foldl adj qs0 → Pm6 qs → PmR qs dp dq → WP 206 40 [.ref 67, .int (nI b), .int (nI qs.length), .int (nI (i + 1)), .int (nI f), .int (nI o), y6, y7, y8, y9] [] (PmH h dp dq) Q) :
    ∀ d x qs dp dq y7 y8 y9, n - x = d → x ≤ n → qs = ((List.range x).flatMap (mpT P f o b)).foldl adj qs0 → Pm6 qs → PmR qs dp dq → WP 206 93 [.ref 67, .int (nI b), .int (nI qs.length), .int (nI i), .int (nI f), .int (nI o), .int (nI x), y7, y8, y9] [] (PmH h dp dq) Q := by
  have hr := PmH_r h
  have hf6 := lt256 hf hn8
  have ho6 := lt256 ho hn8
  have n0 := nt.1
  have hbf := fun (dp dq : Nat → Int32) (Q : Option Value → AH → Prop) => s152 (Q := Q) (h := PmH h dp dq) (s := f) (by omega)
  have hbo := fun (dp dq : Nat → Int32) (Q : Option Value → AH → Prop) => s152 (Q := Q) (h := PmH h dp dq) (s := o) (by omega)
  intro d
  induction d with
  | zero =>
    intro x qs dp dq y7 y8 y9 hd hx hq p6 pr
    have hle : nI n ≤ nI x := nI_le (by omega) (by omega)
    have hxn : x = n := by omega
    rw [hxn] at hq
    rw [w206_93]
    simp only [w206_b, w206_d, w206_e, hr, ms, mz, n0, hle, zz, nI_1]
    exact kk qs dp dq _ _ _ _ hq p6 pr
  | succ d ih =>
    intro x qs dp dq y7 y8 y9 hd hx hq p6 pr
    have hxn : x < n := by omega
    have hle : ¬ nI n ≤ nI x := nI_ge hxn (by omega)
    have c1 : (nI x).toNatClampNeg = x := nI_clamp (by omega)
    have i1 : inb (nI x) 28 = true := inb_nI (by omega) (by decide)
    have m0 := nt.2.2 x hxn
    have hPx := s_lt po.1 (po.lt hxn)
    have pw : (1 : Int32) <<< (nI x &&& 31) = nI (2 ^ x) := nI_pow x (by omega)
    have e1 := sdf0 (a := P x) (s := f ||| o) (by omega)
    have hfo : f ||| o < 256 := Nat.or_lt_two_pow (n := 8) hf6 ho6
    have hpf := pc_le f
    have hpo := pc_le o
    have e2 : (nI b ≤ nI (pc f + pc o)) ↔ b ≤ pc f + pc o := nI_leI (by omega) (by omega)
    have ef : (nI (f &&& 2 ^ x) = 0) ↔ ¬ f.testBit x = true := by
      rw [show (0 : Int32) = nI 0 from rfl, nI_eq (by have : f &&& 2 ^ x ≤ f := Nat.and_le_left; omega) (by decide)]
      exact and_pow0
    have eo : (nI (o &&& 2 ^ x) = 0) ↔ ¬ o.testBit x = true := by
      rw [show (0 : Int32) = nI 0 from rfl, nI_eq (by have : o &&& 2 ^ x ≤ o := Nat.and_le_left; omega) (by decide)]
      exact and_pow0
    have hstp : ((List.range (x + 1)).flatMap (mpT P f o b)).foldl adj qs0 = (mpT P f o b x).foldl adj qs := by
      rw [List.range_succ, List.flatMap_append, List.foldl_append, ← hq]
      simp
    have h2x : 2 ^ x < 256 := lt256 (p2_lt hxn) hn8
    have h1 : sdf f (2 ^ x) < 256 := Nat.lt_of_le_of_lt (sdf_le _ _) hf6
    have h2 : sdf o (2 ^ x) < 256 := Nat.lt_of_le_of_lt (sdf_le _ _) ho6
    have h3 : f ||| 2 ^ x < 256 := Nat.or_lt_two_pow (n := 8) hf6 h2x
    have h4 : o ||| 2 ^ x < 256 := Nat.or_lt_two_pow (n := 8) ho6 h2x
    rw [w206_93]
    by_cases q1 : f.testBit x = true
    · have hm : mpT P f o b x = [cod (sdf f (2 ^ x)) o] := by unfold mpT; rw [if_pos q1]
      rw [hm] at hstp
      have es : nI (256 * sdf f (2 ^ x) + o) = nI (sw (cod (sdf f (2 ^ x)) o)) := by rw [sw_cod h1]
      have k' := s207 (Q := fun r h' => WP 206 184 [.ref 67, .int (nI b), .int (nI qs.length), .int (nI i), .int (nI f), .int (nI o), .int (nI x), .int (nI (2 ^ x)), .int (if (f ||| o) &&& P x = P x then 1 else 0), .int (if b ≤ pc f + pc o then 0 else 1)] (r.toList ++ []) h' Q) ms p6 pr (cod_lt h1 ho6) fun dp' dq' pr' => by
        simp only [w206_c, w206_d, w206_e, zz, nI_1]
        exact ih (x + 1) _ dp' dq' _ _ _ (by omega) (by omega) hstp.symm (p6.ad (cod_lt h1 ho6)) pr'
      by_cases q2 : (f ||| o) &&& P x = P x
      · by_cases q3 : b ≤ pc f + pc o
        · rw [if_pos q2, if_pos q3] at k'
          simp only [w206_b, w206_c, w206_d, hr, ms, mz, n0, hle, pw, c1, i1, m0, nI_or, nI_sdf, e1, q2, hbf, hbo, nI_add, e2, q3, nI_and, ef, q1, mul256, es, zz]
          exact k'
        · rw [if_pos q2, if_neg q3] at k'
          simp only [w206_b, w206_c, w206_d, hr, ms, mz, n0, hle, pw, c1, i1, m0, nI_or, nI_sdf, e1, q2, hbf, hbo, nI_add, e2, q3, nI_and, ef, q1, mul256, es, zz]
          exact k'
      · by_cases q3 : b ≤ pc f + pc o
        · rw [if_neg q2, if_pos q3] at k'
          simp only [w206_b, w206_c, w206_d, hr, ms, mz, n0, hle, pw, c1, i1, m0, nI_or, nI_sdf, e1, q2, hbf, hbo, nI_add, e2, q3, nI_and, ef, q1, mul256, es, zz]
          exact k'
        · rw [if_neg q2, if_neg q3] at k'
          simp only [w206_b, w206_c, w206_d, hr, ms, mz, n0, hle, pw, c1, i1, m0, nI_or, nI_sdf, e1, q2, hbf, hbo, nI_add, e2, q3, nI_and, ef, q1, mul256, es, zz]
          exact k'
    · by_cases q4 : o.testBit x = true
      · by_cases q2 : (f ||| o) &&& P x = P x
        · have hm : mpT P f o b x = [cod (f ||| 2 ^ x) (sdf o (2 ^ x))] := by unfold mpT; rw [if_neg q1, if_pos q4, if_pos q2]
          rw [hm] at hstp
          have es : nI (256 * (f ||| 2 ^ x) + sdf o (2 ^ x)) = nI (sw (cod (f ||| 2 ^ x) (sdf o (2 ^ x)))) := by rw [sw_cod h3]
          have k' := s207 (Q := fun r h' => WP 206 223 [.ref 67, .int (nI b), .int (nI qs.length), .int (nI i), .int (nI f), .int (nI o), .int (nI x), .int (nI (2 ^ x)), .int 1, .int (if b ≤ pc f + pc o then 0 else 1)] (r.toList ++ []) h' Q) ms p6 pr (cod_lt h3 h2) fun dp' dq' pr' => by
            simp only [w206_d, w206_e, zz, nI_1]
            exact ih (x + 1) _ dp' dq' _ _ _ (by omega) (by omega) hstp.symm (p6.ad (cod_lt h3 h2)) pr'
          by_cases q3 : b ≤ pc f + pc o
          · rw [if_pos q3] at k'
            simp only [w206_b, w206_c, w206_d, hr, ms, mz, n0, hle, pw, c1, i1, m0, nI_or, nI_sdf, e1, q2, hbf, hbo, nI_add, e2, q3, nI_and, ef, q1, eo, q4, mul256, es, zz]
            exact k'
          · rw [if_neg q3] at k'
            simp only [w206_b, w206_c, w206_d, hr, ms, mz, n0, hle, pw, c1, i1, m0, nI_or, nI_sdf, e1, q2, hbf, hbo, nI_add, e2, q3, nI_and, ef, q1, eo, q4, mul256, es, zz]
            exact k'
        · have hm : mpT P f o b x = [] := by unfold mpT; rw [if_neg q1, if_pos q4, if_neg q2]
          rw [hm] at hstp
          by_cases q3 : b ≤ pc f + pc o
          · simp only [w206_b, w206_c, w206_d, w206_e, hr, ms, mz, n0, hle, pw, c1, i1, m0, nI_or, nI_sdf, e1, q2, hbf, hbo, nI_add, e2, q3, nI_and, ef, q1, eo, q4, zz, nI_1]
            exact ih (x + 1) qs dp dq _ _ _ (by omega) (by omega) hstp.symm p6 pr
          · simp only [w206_b, w206_c, w206_d, w206_e, hr, ms, mz, n0, hle, pw, c1, i1, m0, nI_or, nI_sdf, e1, q2, hbf, hbo, nI_add, e2, q3, nI_and, ef, q1, eo, q4, zz, nI_1]
            exact ih (x + 1) qs dp dq _ _ _ (by omega) (by omega) hstp.symm p6 pr
      · by_cases q3 : b ≤ pc f + pc o
        · have hm : mpT P f o b x = [] := by unfold mpT; rw [if_neg q1, if_neg q4, if_neg (by omega)]
          rw [hm] at hstp
          by_cases q2 : (f ||| o) &&& P x = P x
          · simp only [w206_b, w206_c, w206_d, w206_e, hr, ms, mz, n0, hle, pw, c1, i1, m0, nI_or, nI_sdf, e1, q2, hbf, hbo, nI_add, e2, q3, nI_and, ef, q1, eo, q4, zz, nI_1]
            exact ih (x + 1) qs dp dq _ _ _ (by omega) (by omega) hstp.symm p6 pr
          · simp only [w206_b, w206_c, w206_d, w206_e, hr, ms, mz, n0, hle, pw, c1, i1, m0, nI_or, nI_sdf, e1, q2, hbf, hbo, nI_add, e2, q3, nI_and, ef, q1, eo, q4, zz, nI_1]
            exact ih (x + 1) qs dp dq _ _ _ (by omega) (by omega) hstp.symm p6 pr
        · have es2 : nI (256 * f + (o ||| 2 ^ x)) = nI (sw (cod f (o ||| 2 ^ x))) := by rw [sw_cod hf6]
          by_cases q2 : (f ||| o) &&& P x = P x
          · have hm : mpT P f o b x = [cod (f ||| 2 ^ x) o, cod f (o ||| 2 ^ x)] := by unfold mpT; rw [if_neg q1, if_neg q4, if_pos (by omega), if_pos q2]
            rw [hm] at hstp
            have es : nI (256 * (f ||| 2 ^ x) + o) = nI (sw (cod (f ||| 2 ^ x) o)) := by rw [sw_cod h3]
            simp only [w206_b, w206_c, w206_d, hr, ms, mz, n0, hle, pw, c1, i1, m0, nI_or, nI_sdf, e1, q2, hbf, hbo, nI_add, e2, q3, nI_and, ef, q1, eo, q4, mul256, es, zz]
            refine s207 ms p6 pr (cod_lt h3 ho6) fun dp' dq' pr' => ?_
            have p6' := p6.ad (cod_lt h3 ho6)
            simp only [w206_d, w206_e, hr, ms, nI_or, mul256, es2, zz]
            refine s207 ms p6' pr' (cod_lt hf6 h4) fun dp'' dq'' pr'' => ?_
            simp only [w206_d, w206_e, zz, nI_1]
            exact ih (x + 1) _ dp'' dq'' _ _ _ (by omega) (by omega) hstp.symm (p6'.ad (cod_lt hf6 h4)) pr''
          · have hm : mpT P f o b x = [cod f (o ||| 2 ^ x)] := by unfold mpT; rw [if_neg q1, if_neg q4, if_pos (by omega), if_neg q2]
            rw [hm] at hstp
            simp only [w206_b, w206_c, w206_d, w206_e, hr, ms, mz, n0, hle, pw, c1, i1, m0, nI_or, nI_sdf, e1, q2, hbf, hbo, nI_add, e2, q3, nI_and, ef, q1, eo, q4, mul256, es2, zz]
            refine s207 ms p6 pr (cod_lt hf6 h4) fun dp' dq' pr' => ?_
            simp only [w206_d, w206_e, zz, nI_1]
            exact ih (x + 1) _ dp' dq' _ _ _ (by omega) (by omega) hstp.symm (p6.ad (cod_lt hf6 h4)) pr'
end Pm

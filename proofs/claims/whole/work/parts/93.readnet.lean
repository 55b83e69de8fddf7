/-! ===== Reader: begin, readNet ===== -/
def rdN (t : Nat → Int32) (len : Nat) : Nat → Dt → TT → (Nat × TT) × Option Dt
  | 0, _, c => ((1, c), none)
  | f + 1, d, c => if (nxt t len c).1 = 10 then (if 500 < len ∨ d.2.2.2.2 = 0 then ((1, nxt t len c), none) else ((0, nxt t len c), some d)) else (match rdLn t len d (nxt t len c) with
      | (e, none) => (e, none)
      | (_, some (d', c')) => rdN t len f d' c')
def d00 : Dt := (0, fun _ => 0, fun _ => 0, fun _ => 0, 0)
def c00 : TT := (0, 0, 0, 0)
section RdNet
variable {h : AH} {kn len : Nat} {F : Nat → Nat → Int32} {r g : Nat → Int32} {c : TT} {d : Dt} {Q : Option Value → AH → Prop}
theorem adv0 (x : RX h kn) (g2 : g 2 = nI len) (g3 : g 3 = nI c.2.2.2) (o4 : c.2.2.2 ≤ 541) (hl : len ≤ 540) (k : ∀ g', GT len g' (nxt (hI h 3) len c) → Q none (RHp h kn F r g')) : WPM 95 [.ref 27] (RHp h kn F r g) Q := by
  have hk := x.2.1
  rw [RHp_t (by omega)]
  have e3 : hI (NHp (setI h 26 r) kn F) 3 = hI h 3 := by rw [NHp_o (by omega), hI_setI, if_neg (by decide)]
  refine s95 (at0 := c.2.2.2) x.tk g2 g3 o4 hl fun g' ts => ?_
  rw [e3] at ts
  obtain ⟨u1, u2, u3, u4, u5⟩ := ts
  have := k g' ⟨by rw [u1]; exact g2, u2, u3, u4, u5, tok_ok o4 hl⟩
  rw [RHp_t (by omega)] at this
  exact this
theorem tooL (x : RX h kn) (g2 : g 2 = nI len) (hl : len ≤ 540) : WPM 94 [.ref 27] (RHp h kn F r g) Q ↔ Q (some (.int (if 500 < len then 1 else 0))) (RHp h kn F r g) := by
  have hk := x.2.1
  rw [RHp_t (by omega)]
  exact s94 (h := NHp (setI h 26 r) kn F) x.1.1 g2 hl
theorem keepF.dr {F' : Nat → Nat → Int32} (k : keepF F F') (dr : DrF' F d) : DrF' F' d := by
  obtain ⟨k1, k2, k3, k4⟩ := k
  obtain ⟨d1, d2, d3, ⟨R, e1, e2, e3⟩, d5⟩ := dr
  exact ⟨d1, by rw [k4 0 (by decide)]; exact d2, by rw [k4 2 (by decide)]; exact d3, ⟨R, by rw [k4 1 (by decide)]; exact e1, e2, e3⟩, fun k hk => by rw [k1, k2, k3]; exact d5 k hk⟩
theorem net_l (x : RX h kn) (hl : len ≤ 540) {RS : (Nat × TT) × Option Dt}
    (k1 : ∀ F' g' d', RS.2 = some d' → DrF' F' d' → DrOK d' → d'.2.2.2.2 ≠ 0 → NetF F' d'.1 d'.2.2.1 d'.2.2.2.2 → Q (some (.int 1)) (RHp h kn F' r g'))
    (k2 : ∀ F' g' fk c', okT c' → RS.2 = none → RS.1 = (fk, c') → Q (some (.int 0)) (RHp h kn F' (va_up (va_up r 3 (nI fk)) 4 (nI c'.2.1)) g')) :
    ∀ f i d c F g, i + f = 501 → g 2 = nI len → g 3 = nI c.2.2.2 → c.2.2.2 ≤ 541 → (0 < i → GT len g c) → DrF' F d → DrOK d → RS = rdN (hI h 3) len f d c → WP 66 13 [.ref 26, .ref 3, .int (nI len), .ref kn, .int (nI i)] [] (RHp h kn F r g) Q := by
  have hk := x.2.1
  have hr := RHp_r (h := h) (kn := kn) (by omega)
  have t1 := x.2.2.2.1
  have t2 := x.2.2.2.2.1
  have t27 := x.1.1
  have hkT : hT h kn = 4 := x.2.2.1.1
  intro f
  induction f with
  | zero =>
    intro i d c F g hif g2 g3 o4 hgt dr ok hRS
    have hlt : (500 : Int32) < nI i := nI_lt (a := 500) (by omega) (by omega)
    have gt := hgt (by omega)
    rw [w66_13]
    simp only [w66_a, w66_b, hr, t1, hlt, true_implies, not_true_eq_false, not_false_eq_true, false_implies, and_true, true_and]
    refine (s63 x gt 1).mpr ?_
    simp only [w66_a, w66_b, Option.toList_some, List.cons_append, List.nil_append, true_or, or_true]
    exact k2 F g 1 c gt.2.2.2.2.2 (by rw [hRS]; rfl) (by rw [hRS]; rfl)
  | succ f ih =>
    intro i d c F g hif g2 g3 o4 hgt dr ok hRS
    have hlt : ¬ (500 : Int32) < nI i := nI_nlt (a := 500) (by omega) (by decide)
    have es : rdN (hI h 3) len (f + 1) d c = if (nxt (hI h 3) len c).1 = 10 then (if 500 < len ∨ d.2.2.2.2 = 0 then ((1, nxt (hI h 3) len c), none) else ((0, nxt (hI h 3) len c), some d)) else (match rdLn (hI h 3) len d (nxt (hI h 3) len c) with
      | (e, none) => (e, none)
      | (_, some (d', c')) => rdN (hI h 3) len f d' c') := rfl
    rw [es] at hRS
    rw [w66_13]
    simp only [w66_a, hr, t1, t2, t27, hlt, true_implies, not_true_eq_false, not_false_eq_true, false_implies, and_true, true_and]
    refine adv0 x g2 g3 o4 hl fun g1 gt1 => ?_
    have g41 := gt1.2.2.1
    have o1 := gt1.2.2.2.2.2
    have hwi : d.2.2.2.2 < 2 ^ 14 := Nat.lt_of_lt_of_le ok.2 (p2_le dr.1)
    have e02 : F 0 2 = nI d.2.2.2.2 := dr.2.2.1
    by_cases q1 : (nxt (hI h 3) len c).1 = 10
    · have q1' : nI (nxt (hI h 3) len c).1 = 10 := by rw [q1]; rfl
      rw [if_pos q1] at hRS
      by_cases q2 : 500 < len
      · rw [if_pos (Or.inl q2)] at hRS
        simp only [w66_a, w66_b, hr, t1, t2, t27, g41, q1', tooL x gt1.1 hl, if_pos q2, i32_10, Option.toList_some, Option.toList_none, List.cons_append, List.nil_append, true_implies, not_true_eq_false, not_false_eq_true, false_implies, and_true, true_and]
        refine (s63 x gt1 1).mpr ?_
        simp only [w66_a, w66_b, Option.toList_some, List.cons_append, List.nil_append, true_or, or_true]
        exact k2 F g1 1 _ o1 (by rw [hRS]) (by rw [hRS])
      · by_cases q3 : d.2.2.2.2 = 0
        · rw [if_pos (Or.inr q3)] at hRS
          have z0 : F 0 2 = 0 := by rw [e02, q3]; rfl
          simp only [w66_a, w66_b, hr, t1, t2, t27, hkT, g41, q1', z0, tooL x gt1.1 hl, if_neg q2, Option.toList_some, Option.toList_none, List.cons_append, List.nil_append, true_implies, not_true_eq_false, not_false_eq_true, false_implies, and_true, true_and]
          refine (s63 x gt1 1).mpr ?_
          simp only [w66_a, w66_b, Option.toList_some, List.cons_append, List.nil_append, true_or, or_true]
          exact k2 F g1 1 _ o1 (by rw [hRS]) (by rw [hRS])
        · rw [if_neg (fun z => z.elim q2 q3)] at hRS
          have z0 : ¬ nI d.2.2.2.2 = 0 := nI_ne0 (by omega) (by omega)
          simp only [w66_a, w66_b, hr, t1, t2, t27, hkT, g41, q1', e02, z0, tooL x gt1.1 hl, if_neg q2, Option.toList_some, Option.toList_none, List.cons_append, List.nil_append, true_implies, not_true_eq_false, not_false_eq_true, false_implies, and_true, true_and]
          unfold RHp
          refine s28 (h := setI (setI h 26 r) 27 g1) (P := d.2.2.1) (wi := d.2.2.2.2) x.2.2.1 ok.1 dr.2.1 e02 (by omega) (fun y hy => (dr.2.2.2.2 y hy).2.2.2.2) fun F' kf nf => ?_
          simp only [w66_a, w66_b, Option.toList_some, List.cons_append, List.nil_append, true_or, or_true]
          exact k1 F' g1 d (by rw [hRS]) (kf.dr dr) ok q3 nf
    · have q1' : ¬ nI (nxt (hI h 3) len c).1 = 10 := fun z => q1 ((kind_eq (b := 10) o1.1 (by decide)).mp z)
      rw [if_neg q1] at hRS
      simp only [w66_a, w66_b, hr, t1, t2, t27, g41, q1', Option.toList_none, List.nil_append, true_implies, not_true_eq_false, not_false_eq_true, false_implies, and_true, true_and]
      refine s67 x gt1 hl dr ok (fun F' g' d' c' u1 u2 u3 u4 => ?_) (fun F' g' fk c' u1 u2 u3 => ?_)
      · have hln : rdLn (hI h 3) len d (nxt (hI h 3) len c) = ((rdLn (hI h 3) len d (nxt (hI h 3) len c)).1, some (d', c')) := by rw [← u2]
        rw [hln] at hRS
        dsimp only at hRS
        simp only [w66_a, w66_b, i32_10, Option.toList_some, List.cons_append, List.nil_append, true_or, or_true, true_implies, not_true_eq_false, not_false_eq_true, false_implies, and_true, true_and, nI_1]
        exact ih (i + 1) d' c' F' g' (by omega) u1.1 u1.2.1 u1.2.2.2.2.2.2.2.2.1 (fun _ => u1) u3 u4 hRS
      · have hln : rdLn (hI h 3) len d (nxt (hI h 3) len c) = ((fk, c'), none) := by rw [← u2, ← u3]
        rw [hln] at hRS
        dsimp only at hRS
        simp only [w66_a, w66_b, Option.toList_some, List.cons_append, List.nil_append, true_or, or_true, true_implies, not_true_eq_false, not_false_eq_true, false_implies, and_true, true_and]
        exact k2 F' g' fk c' u1.2.2.2.2.2 (by rw [hRS]) (by rw [hRS])
/-- where reading begins: the bytes are the tape, nothing is wrong -/
def rg0 (h : AH) : Nat → Int32 := va_up (va_up (hI h 26) 3 0) 4 0
def gg0 (h : AH) (len : Nat) : Nat → Int32 := va_up (va_up (hI h 27) 2 (nI len)) 3 0
theorem sR_setI (h : AH) (a : Nat) (f : Nat → Int32) (b k v : Nat) : sR (setI h a f) b k v = setI (sR h b k v) a f := rfl
theorem hI_sR (h : AH) (b k v : Nat) : hI (sR h b k v) = hI h := rfl
def bgF (h : AH) (kn len : Nat) : Nat → Nat → Int32 := fun j => hI (setI (setI (sR h 27 1 3) 26 (rg0 h)) 27 (gg0 h len)) (kn + j)
theorem bg_heap : sI (sI (sR (sI (sI h 26 3 0) 26 4 0) 27 1 3) 27 2 (nI len)) 27 3 0 = RHp (sR h 27 1 3) kn (bgF h kn len) (rg0 h) (gg0 h len) := by
  have a1 : sI (sI h 26 3 0) 26 4 0 = setI h 26 (rg0 h) := by rw [sI_as h, sI_setI]; rfl
  have a2 : sI (sI (sR (setI h 26 (rg0 h)) 27 1 3) 27 2 (nI len)) 27 3 0 = setI (setI (sR h 27 1 3) 26 (rg0 h)) 27 (gg0 h len) := by
    rw [sR_setI, sI_as (setI (sR h 27 1 3) 26 (rg0 h)), sI_setI, hI_setI, if_neg (by decide), hI_sR]; rfl
  unfold RHp bgF
  rw [a1, a2, NHp_id]
theorem s65 (t26 : hT h 26 = 8 ∧ hR h 26 0 = 27) (t27 : hT h 27 = 11) (t3 : hT h 3 = 101 ∧ hL h 3 = 540) (hl : len ≤ 540) : WPM 65 [.ref 26, .ref 3, .int (nI len)] h Q ↔ Q none (RHp (sR h 27 1 3) kn (bgF h kn len) (rg0 h) (gg0 h len)) := by
  have h93 := fun Q' : Option Value → AH → Prop => s93 (h := sI (sI h 26 3 0) 26 4 0) (Q := Q') (len := len) t27 t3 hl
  simp only [we65, w65, t26, t27, hs_sI, h93, bg_heap (kn := kn), Option.toList_none, List.nil_append]
theorem s66 (hk : kn = 4 ∨ kn = 15) (x : RX (sR h 27 1 3) kn) (hl : len ≤ 540)
    (k1 : ∀ F' g' d', (rdN (hI h 3) len 501 d00 c00).2 = some d' → DrF' F' d' → DrOK d' → d'.2.2.2.2 ≠ 0 → NetF F' d'.1 d'.2.2.1 d'.2.2.2.2 → Q (some (.int 1)) (RHp (sR h 27 1 3) kn F' (rg0 h) g'))
    (k2 : ∀ F' g' fk c', okT c' → (rdN (hI h 3) len 501 d00 c00).2 = none → (rdN (hI h 3) len 501 d00 c00).1 = (fk, c') → Q (some (.int 0)) (RHp (sR h 27 1 3) kn F' (va_up (va_up (rg0 h) 3 (nI fk)) 4 (nI c'.2.1)) g')) : WPM 66 [.ref 26, .ref 3, .int (nI len), .ref kn] h Q := by
  obtain ⟨⟨t1, t2, t3, t4, t5, t6, t7, t8⟩, -, hf, u1, u2, -⟩ := id x
  have e2 : hR h 26 0 = 27 := by
    have := u2
    rw [hR_sR, if_neg (by decide)] at this
    exact this
  have h26 : hT h 26 = 8 := u1
  rw [we66]
  simp only [w66_a, h26]
  refine (s65 (h := h) (kn := kn) ⟨u1, e2⟩ t1 ⟨t6, t7⟩ hl).mpr ?_
  have hkT : hT (RHp (sR h 27 1 3) kn (bgF h kn len) (rg0 h) (gg0 h len)) kn = 4 := hf.1
  simp only [w66_a, hkT, Option.toList_none, List.nil_append]
  unfold RHp
  refine (s23 (h := setI (setI (sR h 27 1 3) 26 (rg0 h)) 27 (gg0 h len)) hf).mpr ?_
  simp only [w66_a, Option.toList_none, List.nil_append]
  refine net_l x hl k1 k2 501 0 d00 c00 _ (gg0 h len) rfl (by unfold gg0; rw [up_at, if_neg (by decide), up_at, if_pos rfl]) (by unfold gg0; rw [up_at, if_pos rfl]; rfl) (by decide) (fun z => absurd z (Nat.lt_irrefl 0)) ⟨Nat.zero_le _, ?_, ?_, ⟨0, ?_, by decide, fun k hk => absurd hk (Nat.not_lt_zero _)⟩, fun k hk => absurd hk (Nat.not_lt_zero _)⟩ ⟨⟨Nat.zero_le _, fun y hy => absurd hy (Nat.not_lt_zero _)⟩, by decide⟩ rfl
  · rw [upF_at, if_neg (by omega), upF_at, if_neg (by omega), upF_at, if_neg (by omega), upF_at, if_pos ⟨rfl, rfl⟩]; rfl
  · rw [upF_at, if_neg (by omega), upF_at, if_pos ⟨rfl, rfl⟩]; rfl
  · rw [upF_at, if_neg (by omega), upF_at, if_neg (by omega), upF_at, if_pos ⟨rfl, rfl⟩]; rfl
end RdNet

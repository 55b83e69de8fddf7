/-! ===== Small.fewestCarryings ===== -/
theorem cod_lo {lo hi : Nat} (h : lo < 256) : cod lo hi % 256 = lo := by unfold cod; omega
theorem cod_hi {lo hi : Nat} (h : lo < 256) : cod lo hi / 256 = hi := by unfold cod; omega
/-- sets that hold R -/
def SU (R : Nat) : Nat → List Nat
  | 0 => [0]
  | n + 1 => if R.testBit n = true then (SU R n).map (· + 2 ^ n) else SU R n ++ (SU R n).map (· + 2 ^ n)
theorem SU_len (R : Nat) : ∀ n, (SU R n).length * 2 ^ pcn n R = 2 ^ n := by
  intro n
  induction n with
  | zero => rfl
  | succ n ih =>
    show (if R.testBit n = true then (SU R n).map (· + 2 ^ n) else SU R n ++ (SU R n).map (· + 2 ^ n)).length * 2 ^ pcn (n + 1) R = _
    have e : pcn (n + 1) R = pcn n R + if R.testBit n = true then 1 else 0 := rfl
    rw [e]
    by_cases q : R.testBit n = true
    · rw [if_pos q, if_pos q, List.length_map, Nat.pow_succ, Nat.pow_succ, ← ih]
      rw [← Nat.mul_assoc]
    · rw [if_neg q, if_neg q, Nat.add_zero, List.length_append, List.length_map, Nat.pow_succ, Nat.add_mul, ih]
      omega
theorem SU_mem (R : Nat) : ∀ n c, c < 2 ^ n → (∀ j, j < n → R.testBit j = true → c.testBit j = true) → c ∈ SU R n := by
  intro n
  induction n with
  | zero =>
    intro c hc _
    have : c = 0 := by omega
    subst this
    exact List.mem_cons_self
  | succ n ih =>
    intro c hc hb
    have hm : c % 2 ^ n ∈ SU R n := ih _ (Nat.mod_lt _ (Nat.pow_pos (by decide))) fun j hj hR => by
      rw [Nat.testBit_mod_two_pow, hb j (by omega) hR]
      simp [hj]
    show c ∈ (if R.testBit n = true then (SU R n).map (· + 2 ^ n) else SU R n ++ (SU R n).map (· + 2 ^ n))
    have h2 : 2 ^ (n + 1) = 2 ^ n + 2 ^ n := by rw [Nat.pow_succ]; omega
    rcases Nat.lt_or_ge c (2 ^ n) with z | z
    · have hz : c.testBit n = false := Nat.testBit_lt_two_pow z
      have hR : ¬ R.testBit n = true := fun w => by rw [hb n (Nat.lt_succ_self _) w] at hz; cases hz
      rw [if_neg hR]
      rw [Nat.mod_eq_of_lt z] at hm
      exact List.mem_append_left _ hm
    · have e : c = c % 2 ^ n + 2 ^ n := by
        have : c % 2 ^ n = c - 2 ^ n := by
          rw [Nat.mod_eq_sub_mod z, Nat.mod_eq_of_lt (by omega)]
        omega
      have hmm : c ∈ (SU R n).map (· + 2 ^ n) := List.mem_map.mpr ⟨c % 2 ^ n, hm, e.symm⟩
      by_cases q : R.testBit n = true
      · rw [if_pos q]; exact hmm
      · rw [if_neg q]; exact List.mem_append_right _ hmm
def Xc (R n : Nat) : List Nat := (SU R n).flatMap (fun c => (List.range (2 ^ n)).map (fun t => cod t c))
theorem flat_len {f : Nat → List Nat} {m : Nat} (hf : ∀ x, (f x).length = m) : ∀ l : List Nat, (l.flatMap f).length = l.length * m
  | [] => by simp
  | x :: l => by
    rw [List.flatMap_cons, List.length_append, hf, flat_len hf l, List.length_cons, Nat.succ_mul]
    omega
theorem Xc_len {R n : Nat} (hR : R < 2 ^ n) (hn : n ≤ 16) : (Xc R n).length = 2 ^ (2 * n - pc R) := by
  have h1 : (Xc R n).length = (SU R n).length * 2 ^ n := flat_len (fun c => by rw [List.length_map, List.length_range]) _
  have h2 := SU_len R n
  have h3 : pcn n R = pc R := (pcn_big 16 n R hR hn).symm
  rw [h3] at h2
  have h4 : pc R ≤ n := pc_lt hR hn
  rw [h1]
  have e : 2 * n - pc R = (n - pc R) + n := by omega
  have e2 : (2 : Nat) ^ n = 2 ^ (n - pc R) * 2 ^ pc R := by rw [← Nat.pow_add]; congr 1; omega
  have hp : 0 < 2 ^ pc R := Nat.pow_pos (by decide)
  have h5 : (SU R n).length = 2 ^ (n - pc R) := Nat.eq_of_mul_eq_mul_right hp (by rw [h2, ← e2])
  rw [h5, e, Nat.pow_add]
def inC (R n s : Nat) : Prop := s % 256 < 2 ^ n ∧ s / 256 < 2 ^ n ∧ sub R (s / 256)
theorem inC.mem {R n s : Nat} (h : inC R n s) : s ∈ Xc R n := by
  unfold Xc
  refine List.mem_flatMap.mpr ⟨s / 256, SU_mem R n _ h.2.1 (fun j _ hj => h.2.2 j hj), List.mem_map.mpr ⟨s % 256, List.mem_range.mpr h.1, ?_⟩⟩
  unfold cod
  omega
def plT (n : Nat) (P : Nat → Nat) (b s : Nat) : List Nat := (List.range' 0 n).flatMap (mwT P (s % 256) (s / 256) b)
def caT (n b s : Nat) : List Nat := (List.range' 0 n).flatMap (udT (s % 256) (s / 256) b)
theorem mem_r0 {x n : Nat} : x ∈ List.range' 0 n ↔ x < n := by
  rw [List.mem_range'_1]
  omega
theorem inC.pl {R n b s t : Nat} {P : Nat → Nat} (hn : n ≤ 8) (h : inC R n s) (ht : t ∈ plT n P b s) : inC R n t := by
  obtain ⟨h1, h2, h3⟩ := h
  obtain ⟨x, hx, hm⟩ := List.mem_flatMap.mp ht
  have hxn := mem_r0.mp hx
  unfold mwT at hm
  split at hm
  · have e : t = cod (sdf (s % 256) (2 ^ x)) (s / 256) := by simpa using hm
    have hl := sdf_lt (c := 2 ^ x) h1
    rw [e]
    unfold inC
    rw [cod_lo (lt256 hl hn), cod_hi (lt256 hl hn)]
    exact ⟨hl, h2, h3⟩
  · split at hm
    · have e : t = cod (s % 256 ||| 2 ^ x) (s / 256) := by simpa using hm
      have hl := or_lt2 h1 (p2_lt hxn)
      rw [e]
      unfold inC
      rw [cod_lo (lt256 hl hn), cod_hi (lt256 hl hn)]
      exact ⟨hl, h2, h3⟩
    · exact absurd hm List.not_mem_nil
theorem inC.ca {R n b s t : Nat} (hn : n ≤ 8) (h : inC R n s) (ht : t ∈ caT n b s) : inC R n t := by
  obtain ⟨h1, h2, h3⟩ := h
  obtain ⟨x, hx, hm⟩ := List.mem_flatMap.mp ht
  have hxn := mem_r0.mp hx
  unfold udT at hm
  split at hm
  · have e : t = cod (s % 256) (s / 256 ||| 2 ^ x) := by simpa using hm
    have hl := or_lt2 h2 (p2_lt hxn)
    rw [e]
    unfold inC
    rw [cod_lo (lt256 h1 hn), cod_hi (lt256 h1 hn)]
    exact ⟨h1, hl, fun j hj => by rw [Nat.testBit_or, h3 j hj]; rfl⟩
  · split at hm
    · have e : t = cod (s % 256 ||| 2 ^ x) (s / 256) := by simpa using hm
      have hl := or_lt2 h1 (p2_lt hxn)
      rw [e]
      unfold inC
      rw [cod_lo (lt256 hl hn), cod_hi (lt256 hl hn)]
      exact ⟨hl, h2, h3⟩
    · exact absurd hm List.not_mem_nil
def eC (wi s : Nat) : Bool := decide (s / 256 &&& wi = wi)
section Carry
variable {h : AH} {B M q l mo kn n b R wi : Nat} {P : Nat → Nat} {Q : Option Value → AH → Prop}
/-- the searches' facts together -/
def SQ (mo R n : Nat) (qs : List Nat) : Prop := qs.Nodup ∧ (∀ s, s ∈ qs → inC R n s) ∧ qs.length ≤ mo
theorem SQ.pl {qs : List Nat} {s : Nat} (hX : (Xc R n).length ≤ mo) (hn : n ≤ 8) (g : SQ mo R n qs) (hs : s ∈ qs) : vf mo (mwT P (s % 256) (s / 256) b) 0 n qs = (plT n P b s).foldl adj qs ∧ SQ mo R n ((plT n P b s).foldl adj qs) := by
  obtain ⟨g1, g2, g3⟩ := g
  have hin : ∀ c, c ∈ plT n P b s → inC R n c := fun c hc => (g2 s hs).pl hn hc
  have e : vf mo (mwT P (s % 256) (s / 256) b) 0 n qs = (plT n P b s).foldl adj qs := by
    rw [vf_eq]
    exact vis_adj hX _ qs g1 (fun c hc => (g2 c hc).mem) (fun c hc => (hin c hc).mem)
  obtain ⟨nw, h1, h2, h3, h4⟩ := adj_adds (plT n P b s) qs
  refine ⟨e, by rw [h1]; exact h2 g1, fun c hc => ?_, ?_⟩
  · rw [h1] at hc
    rcases List.mem_append.mp hc with z | z
    · exact g2 c z
    · exact hin c (h3 c z)
  · rw [← e, vf_eq]
    exact vfold_len _ _ g3
theorem SQ.ca {qs : List Nat} {s : Nat} (hX : (Xc R n).length ≤ mo) (hn : n ≤ 8) (g : SQ mo R n qs) (hs : s ∈ qs) : vf mo (udT (s % 256) (s / 256) b) 0 n qs = (caT n b s).foldl adj qs ∧ SQ mo R n ((caT n b s).foldl adj qs) := by
  obtain ⟨g1, g2, g3⟩ := g
  have hin : ∀ c, c ∈ caT n b s → inC R n c := fun c hc => (g2 s hs).ca hn hc
  have e : vf mo (udT (s % 256) (s / 256) b) 0 n qs = (caT n b s).foldl adj qs := by
    rw [vf_eq]
    exact vis_adj hX _ qs g1 (fun c hc => (g2 c hc).mem) (fun c hc => (hin c hc).mem)
  obtain ⟨nw, h1, h2, h3, h4⟩ := adj_adds (caT n b s) qs
  refine ⟨e, by rw [h1]; exact h2 g1, fun c hc => ?_, ?_⟩
  · rw [h1] at hc
    rcases List.mem_append.mp hc with z | z
    · exact g2 c z
    · exact hin c (h3 c z)
  · rw [← e, vf_eq]
    exact vfold_len _ _ g3
theorem carry_l (x : VX h q l mo) (hmo : mo ≤ 65536) (hX : (Xc R n).length ≤ mo) (hp : NetP h kn n P) (po : PartsOK n P) (hn8 : n ≤ 8) (hkn : kn + 10 < 27) (hb : b < 65536) (hwi : wi < 2 ^ n) (h2 : hI h kn 2 = nI wi)
    (k : ∀ r qu mk m, CyR (plT n P b) (caT n b) (cod 0 R) (eC wi) r → Q (some (.int r)) (VHp h q l qu mk m)) :
    ∀ d c fr qs qu mk y5 y6, mo - fr ≤ d → CL (plT n P b) (caT n b) (cod 0 R) (eC wi) c fr qs → SQ mo R n qs → VR qu mk qs → WP 84 34 [.ref 64, .ref kn, .int (nI b), .int (nI fr), .int (nI c), y5, y6] [] (VHp h q l qu mk qs.length) Q := by
  obtain ⟨⟨t1, t2, t3, t4, t5, t6⟩, ⟨l1, l2, l3, l4⟩, ⟨n1, n2, n3⟩, x1⟩ := id x
  have hr := VHp_r (h := h) n1 n2 n3
  have ekn : ∀ qu mk m, hI (VHp h q l qu mk m) kn = hI h kn := fun qu mk m => x.nn (by omega) qu mk m
  have hF := hp.1
  have hwi6 := lt256 hwi hn8
  -- the carrying of level c
  have lpB : ∀ c fr un, (∀ qs qu mk y5 y6, CL (plT n P b) (caT n b) (cod 0 R) (eC wi) (c + 1) un qs → SQ mo R n qs → VR qu mk qs → WP 84 34 [.ref 64, .ref kn, .int (nI b), .int (nI un), .int (nI (c + 1)), y5, y6] [] (VHp h q l qu mk qs.length) Q) → c ≤ 65536 → un ≤ mo →
      ∀ d i qs qu mk, un - i = d → CB1 (plT n P b) (caT n b) (cod 0 R) (eC wi) c fr un i qs → SQ mo R n qs → VR qu mk qs → WP 84 114 [.ref 64, .ref kn, .int (nI b), .int (nI fr), .int (nI c), .int (nI un), .int (nI i)] [] (VHp h q l qu mk qs.length) Q := by
    intro c fr un hnext hc9 hun d
    induction d with
    | zero =>
      intro i qs qu mk hd cb sq vr
      have hiu : i = un := by have := cb.2.2.2.1; omega
      subst hiu
      have hle : nI i ≤ nI i := Int32.le_refl _
      rw [w84_114]
      simp only [w84_a, w84_b, w84_c, hle, true_implies, not_true_eq_false, false_implies, and_true, nI_1]
      exact hnext qs qu mk _ _ cb.next sq vr
    | succ d ih =>
      intro i qs qu mk hd cb sq vr
      have hiu : i < un := by omega
      have hul := cb.2.1
      have hle : ¬ nI un ≤ nI i := nI_ge hiu (by omega)
      have hil : i < qs.length := by omega
      obtain ⟨s, hs⟩ : ∃ s, qs[i]? = some s := ⟨_, List.getElem?_eq_getElem hil⟩
      have hsm := List.mem_of_getElem? hs
      have hsi := sq.2.1 s hsm
      have hqu := vr.1 i s hs
      have hs1 := lt256 hsi.1 hn8
      have hs2 := lt256 hsi.2.1 hn8
      have hs9 : s < 2 ^ 31 := by omega
      have ci : (nI i).toNatClampNeg = i := nI_clamp (by omega)
      have ii : inb (nI i) (hL h q) = true := inb_nI (by omega) (by omega)
      have hab : s / 256 &&& wi < 2 ^ 31 := Nat.lt_of_le_of_lt Nat.and_le_left (by omega)
      rw [w84_114]
      by_cases q3 : s / 256 &&& wi = wi
      · have q3' : nI (s / 256) &&& nI wi = nI wi := by rw [nI_and, q3]
        simp only [w84_b, w84_c, hle, hr, ekn, t1, t2, t4, ci, ii, hqu, shr8 hs9, hF, h2, s141, q3', if_true, i32_10, Option.toList_some, List.cons_append, List.nil_append, true_or, or_true, true_implies, not_true_eq_false, not_false_eq_true, false_implies, and_true, true_and]
        exact k _ _ _ _ (cb.found hiu hs (decide_eq_true q3) hc9)
      · have q3' : ¬ nI (s / 256) &&& nI wi = nI wi := fun z => by rw [nI_and] at z; exact q3 (nI_inj hab (by omega) z)
        simp only [w84_b, w84_c, hle, hr, ekn, t1, t2, t4, ci, ii, hqu, shr8 hs9, and255, hF, h2, s141, q3', if_false, Option.toList_some, List.cons_append, List.nil_append, true_or, or_true, true_implies, not_true_eq_false, not_false_eq_true, false_implies, and_true, true_and]
        obtain ⟨e1, sq'⟩ := sq.ca (b := b) hX hn8 hsm
        refine s86 x (by omega) hp hn8 hkn hsi.1 hsi.2.1 hb sq.2.2 vr fun qu' mk' g => ?_
        rw [e1] at g ⊢
        simp only [w84_b, w84_c, Option.toList_none, List.nil_append, nI_1]
        exact ih (i + 1) _ qu' mk' (by omega) (cb.step hiu hs (decide_eq_false q3)) sq' g
  -- making and washing
  have lpA : ∀ c fr, (∀ un qs qu mk y5 y6, fr < un → un ≤ mo → CL (plT n P b) (caT n b) (cod 0 R) (eC wi) (c + 1) un qs → SQ mo R n qs → VR qu mk qs → WP 84 34 [.ref 64, .ref kn, .int (nI b), .int (nI un), .int (nI (c + 1)), y5, y6] [] (VHp h q l qu mk qs.length) Q) → c ≤ 65536 →
      ∀ d i qs qu mk y6, mo - i = d → CA1 (plT n P b) (caT n b) (cod 0 R) (eC wi) c fr i qs → fr < qs.length → SQ mo R n qs → VR qu mk qs → WP 84 54 [.ref 64, .ref kn, .int (nI b), .int (nI fr), .int (nI c), .int (nI i), y6] [] (VHp h q l qu mk qs.length) Q := by
    intro c fr hnext hc9 d
    have fin : ∀ i qs qu mk y6, CA1 (plT n P b) (caT n b) (cod 0 R) (eC wi) c fr i qs → fr < qs.length → SQ mo R n qs → VR qu mk qs → qs.length ≤ i → WP 84 54 [.ref 64, .ref kn, .int (nI b), .int (nI fr), .int (nI c), .int (nI i), y6] [] (VHp h q l qu mk qs.length) Q := fun i qs qu mk y6 ca hfr sq vr hi => by
      have hqm := sq.2.2
      have hil := ca.2.2.1
      have hle : nI qs.length ≤ nI i := nI_le hi (by omega)
      rw [w84_54]
      simp only [w84_a, w84_b, hr, t1, hle, true_implies, not_true_eq_false, false_implies, and_true]
      exact lpB c fr qs.length (fun qs' qu' mk' y5 y6 g1 g2 g3 => hnext qs.length qs' qu' mk' y5 y6 hfr hqm g1 g2 g3) hc9 hqm (qs.length - fr) fr qs qu mk rfl (ca.b1 hi hfr) sq vr
    induction d with
    | zero =>
      intro i qs qu mk y6 hd ca hfr sq vr
      exact fin i qs qu mk y6 ca hfr sq vr (by have := sq.2.2; omega)
    | succ d ih =>
      intro i qs qu mk y6 hd ca hfr sq vr
      by_cases q1 : qs.length ≤ i
      · exact fin i qs qu mk y6 ca hfr sq vr q1
      · have hqm := sq.2.2
        have hle : ¬ nI qs.length ≤ nI i := nI_ge (by omega) (by omega)
        have hle2 : ¬ nI mo ≤ nI i := nI_ge (by omega) (by omega)
        obtain ⟨s, hs⟩ : ∃ s, qs[i]? = some s := ⟨_, List.getElem?_eq_getElem (by omega)⟩
        have hsm := List.mem_of_getElem? hs
        have hsi := sq.2.1 s hsm
        have hqu := vr.1 i s hs
        have hs1 := lt256 hsi.1 hn8
        have hs2 := lt256 hsi.2.1 hn8
        have hs9 : s < 2 ^ 31 := by omega
        have ci : (nI i).toNatClampNeg = i := nI_clamp (by omega)
        have ii : inb (nI i) (hL h q) = true := inb_nI (by omega) (by omega)
        rw [w84_54]
        simp only [w84_a, w84_b, hle, hle2, hr, t1, t2, t4, t6, ci, ii, hqu, shr8 hs9, and255, true_or, or_true, true_implies, not_true_eq_false, not_false_eq_true, false_implies, and_true, true_and]
        obtain ⟨e1, sq'⟩ := sq.pl (P := P) (b := b) hX hn8 hsm
        refine s85 x (by omega) hp po hn8 hkn hsi.1 hs2 hb sq.2.2 vr fun qu' mk' g => ?_
        rw [e1] at g ⊢
        simp only [w84_a, w84_b, Option.toList_none, List.nil_append, nI_1]
        refine ih (i + 1) _ qu' mk' _ (by omega) (ca.step hs) ?_ sq' g
        obtain ⟨nw, z1, -⟩ := adj_adds (plT n P b s) qs
        rw [z1, List.length_append]
        omega
  intro d
  induction d with
  | zero =>
    intro c fr qs qu mk y5 y6 hd cl sq vr
    have hqm := sq.2.2
    have hfl := cl.2.1
    have hc8 := cl.2.2.2.2.2.2.2
    have hle2 : nI qs.length ≤ nI fr := nI_le (by omega) (by omega)
    rw [w84_34]
    by_cases z : mo ≤ c
    · have hle : nI mo ≤ nI c := nI_le z (by omega)
      simp only [w84_a, w84_b, w84_c, hr, t1, t6, hle, true_or, or_true, true_implies, not_true_eq_false, not_false_eq_true, false_implies, and_true, true_and]
      exact k _ _ _ _ (cl.stop (by omega))
    · have hle : ¬ nI mo ≤ nI c := nI_ge (by omega) (by omega)
      simp only [w84_a, w84_b, w84_c, hr, t1, t6, hle, hle2, true_or, or_true, true_implies, not_true_eq_false, not_false_eq_true, false_implies, and_true, true_and]
      exact k _ _ _ _ (cl.stop (by omega))
  | succ d ih =>
    intro c fr qs qu mk y5 y6 hd cl sq vr
    have hqm := sq.2.2
    have hfl := cl.2.1
    have hc8 := cl.2.2.2.2.2.2.2
    rw [w84_34]
    by_cases z : mo ≤ c
    · have hle : nI mo ≤ nI c := nI_le z (by omega)
      simp only [w84_a, w84_b, w84_c, hr, t1, t6, hle, true_or, or_true, true_implies, not_true_eq_false, not_false_eq_true, false_implies, and_true, true_and]
      exact k _ _ _ _ (cl.stop (by omega))
    · have hle : ¬ nI mo ≤ nI c := nI_ge (by omega) (by omega)
      by_cases z2 : qs.length ≤ fr
      · have hle2 : nI qs.length ≤ nI fr := nI_le z2 (by omega)
        simp only [w84_a, w84_b, w84_c, hr, t1, t6, hle, hle2, true_or, or_true, true_implies, not_true_eq_false, not_false_eq_true, false_implies, and_true, true_and]
        exact k _ _ _ _ (cl.stop z2)
      · have hle2 : ¬ nI qs.length ≤ nI fr := nI_ge (by omega) (by omega)
        simp only [w84_a, hr, t1, t6, hle, hle2, true_or, or_true, true_implies, not_true_eq_false, not_false_eq_true, false_implies, and_true, true_and]
        exact lpA c fr (fun un qs' qu' mk' y5 y6 g1 g2 g3 g4 g5 => ih (c + 1) un qs' qu' mk' y5 y6 (by omega) g3 g4 g5) (by omega) (mo - fr) fr qs qu mk _ rfl cl.a1 (by omega) sq vr
theorem s84 (cw : CW B M h) (hkn : kn = 4 ∨ kn = 15) (hp : NetP h kn n P) (po : PartsOK n P) (hn8 : n ≤ 8) (hn0 : 0 < n) (hb : b < 65536) (hR1 : hI h kn 1 = nI R) (hR9 : R < 2 ^ n) (hRb : ∀ k, k < n → R.testBit k = decide (P k = 0)) (hwi : wi < 2 ^ n) (h2 : hI h kn 2 = nI wi)
    (k : ∀ h' r, CyR (plT n P b) (caT n b) (cod 0 R) (eC wi) r → CW B M h' → CFr (fun a => a = 64) (fun _ => False) h h' → Q (some (.int r)) h') : WPM 84 [.ref 64, .ref kn, .int (nI b)] h Q := by
  have hR6 := lt256 hR9 hn8
  have a1 : hT h 64 = 10 := by simp only [cw.1]
  have hF := hp.1
  have hp0 : P 0 = 0 := by have := (po.2 0 hn0).1; omega
  have hRne : R ≠ 0 := fun z => by
    have := hRb 0 hn0
    rw [z, Nat.zero_testBit, hp0] at this
    simp at this
  have hpR := pc_pos hRne (by omega)
  have hpn : pc R ≤ n := pc_lt hR9 (by omega)
  have hbc : bcI (nI R) = nI (pc R) := bc_pc (by omega)
  have e2 : (2 : Int32) * nI n = nI (2 * n) := pk_mul 2 n
  have e3 : nI (2 * n) - nI (pc R) = nI (2 * n - pc R) := pk_sub (by omega)
  have e4 : (1 : Int32) <<< (nI (2 * n - pc R) &&& 31) = nI (2 ^ (2 * n - pc R)) := nI_pow _ (by omega)
  have hm : 2 ^ (2 * n - pc R) ∈ sizes := pow_sizes (by omega)
  have hmo : 2 ^ (2 * n - pc R) ≤ 65536 := p2_le (n := 16) (by omega)
  have hX := Xc_len hR9 (show n ≤ 16 by omega)
  have hmpos : 0 < 2 ^ (2 * n - pc R) := Nat.pow_pos (by decide)
  rw [we84]
  simp only [w84_a, hF, a1, hp.2.1, hR1, s218, hbc, e2, e3, e4, Option.toList_some, List.cons_append, List.nil_append]
  refine s82 cw hm fun h1 qu mk cw1 cf1 x vr => ?_
  have hp1 : NetP h1 kn n P := hp.cfr cf1 cw cw1 hkn (by omega) (by omega)
  have eI : hI h1 kn = hI h kn := cf1.keep cw (by omega) (by omega) (by omega)
  have hr := VHp_r (h := h1) x.2.2.1.1 x.2.2.1.2.1 x.2.2.1.2.2
  have ekn : ∀ qu mk m, hI (VHp h1 (hR h1 31 0) (hR h1 31 1) qu mk m) kn = hI h1 kn := fun qu mk m => x.nn (by omega) qu mk m
  simp only [w84_a, hr, ekn, eI, hR1, x.1.1, hp1.1, Option.toList_none, List.nil_append]
  have hv : vis (2 ^ (2 * n - pc R)) [] (256 * R + 0) = [cod 0 R] := by
    unfold vis cod
    rw [if_neg]
    · rfl
    · rintro (z | z)
      · exact absurd z List.not_mem_nil
      · rw [List.length_nil] at z
        omega
  refine s83 (a := 0) (qs := []) x (by omega) (by decide) hR6 (Nat.zero_le _) vr fun qu' mk' g => ?_
  rw [hv] at g ⊢
  simp only [w84_a, Option.toList_none, List.nil_append]
  have hin : inC R n (cod 0 R) := by
    unfold inC
    rw [cod_lo (by decide), cod_hi (by decide)]
    exact ⟨Nat.pow_pos (by decide), hR9, fun j hj => hj⟩
  refine carry_l x hmo (by omega) hp1 po hn8 (by omega) hb hwi (by rw [eI]; exact h2) (fun r qu2 mk2 m2 cr => ?_) _ 0 0 [cod 0 R] qu' mk' _ _ (Nat.le_refl _) CL.start ⟨by simp, fun s hs => ?_, by rw [List.length_singleton]; omega⟩ g
  · exact k _ r cr (cw1.ofI VHp_only) (cf1.trans' (CFr.ofIJ (J' := fun _ => False) (OnlyI.ij VHp_only) (fun a z => by rcases z with z | z | z; exact Or.inr (Or.inl z); exact Or.inr (Or.inr (Or.inl z)); exact Or.inl z) (fun a z => z.elim)))
  · have : s = cod 0 R := by simpa using hs
    rw [this]
    exact hin
end Carry

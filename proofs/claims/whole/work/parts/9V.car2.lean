/-! ===== the reference's carry: whole ===== -/
section Cr2
variable {h : AH} {n b wi R : Nat} {P : Nat → Nat} {Q : Option Value → AH → Prop}
theorem raw_mod {R x : Nat} : R % 2 ^ (x + 1) = R % 2 ^ x ||| (if R.testBit x = true then 2 ^ x else 0) := by
  apply Nat.eq_of_testBit_eq
  intro i
  rw [Nat.testBit_or, Nat.testBit_mod_two_pow, Nat.testBit_mod_two_pow]
  by_cases q : R.testBit x = true
  · rw [if_pos q, Nat.testBit_two_pow]
    by_cases z : x = i
    · subst z
      simp [q]
    · simp [z, show (i < x + 1) = (i < x) by apply propext; omega]
  · rw [if_neg q, Nat.zero_testBit]
    by_cases z : x = i
    · subst z
      simp [q]
    · simp [show (i < x + 1) = (i < x) by apply propext; omega]
theorem CyD.is {k t : Nat} {ol nx : List Nat} {dp : Nat → Int32} (c : CyD k ol nx dp) (hk : k ≤ 1000) (hd : (ol ++ nx).Nodup) {s : Nat} (hs : s < 65536) : (dp (sw s) = nI k) ↔ s ∈ nx := by
  obtain ⟨c1, c2⟩ := c (sw s) (sw_lt hs)
  rw [sw_sw hs] at c1 c2
  by_cases q : s ∈ ol
  · obtain ⟨v, hv, e⟩ := c1 q
    rw [e, nI_eq (by omega) (by omega)]
    rw [List.nodup_append] at hd
    constructor
    · intro z; omega
    · intro z; exact absurd rfl (hd.2.2 s q s z)
  · rw [c2 q]
    by_cases q2 : s ∈ nx
    · rw [if_pos q2]
      exact ⟨fun _ => q2, fun _ => rfl⟩
    · rw [if_neg q2, nI_eq (by decide) (by omega)]
      constructor
      · intro z; omega
      · intro z; exact absurd z q2
/-- what the scan has found -/
def CyS (nx : List Nat) (t c : Nat) (cu : List Nat) : Prop := cu.Nodup ∧ ∀ s, s ∈ cu ↔ s ∈ nx ∧ (s % 256 < t ∨ (s % 256 = t ∧ s / 256 < c))
theorem CyS.no {nx cu : List Nat} {t c : Nat} (hc : c < 256) (ht : t < 256) (x : CyS nx t c cu) (hn : ¬ cod t c ∈ nx) : CyS nx t (c + 1) cu := by
  refine ⟨x.1, fun s => ?_⟩
  rw [x.2]
  constructor
  · rintro ⟨h1, h2⟩
    exact ⟨h1, by omega⟩
  · rintro ⟨h1, h2⟩
    refine ⟨h1, ?_⟩
    rcases h2 with z | ⟨z1, z2⟩
    · exact Or.inl z
    · refine Or.inr ⟨z1, ?_⟩
      have hne : s ≠ cod t c := fun e => hn (by rw [← e]; exact h1)
      unfold cod at hne
      omega
theorem CyS.yes {nx cu : List Nat} {t c : Nat} (hc : c < 256) (ht : t < 256) (x : CyS nx t c cu) (hn : cod t c ∈ nx) : CyS nx t (c + 1) (cu ++ [cod t c]) := by
  have hlo := cod_lo (lo := t) (hi := c) ht
  have hhi := cod_hi (lo := t) (hi := c) ht
  refine ⟨?_, fun s => ?_⟩
  · rw [List.nodup_append]
    refine ⟨x.1, by simp, fun a ha y hy e => ?_⟩
    have : y = cod t c := by simpa using hy
    rw [e, this, x.2, hlo, hhi] at ha
    omega
  · rw [List.mem_append, x.2, List.mem_singleton]
    constructor
    · rintro (⟨h1, h2⟩ | h1)
      · exact ⟨h1, by omega⟩
      · rw [h1, hlo, hhi]
        exact ⟨hn, by omega⟩
    · rintro ⟨h1, h2⟩
      by_cases e : s = cod t c
      · exact Or.inr e
      · refine Or.inl ⟨h1, ?_⟩
        unfold cod at e
        omega
theorem CyS.row {nx cu : List Nat} {t m : Nat} (hin : ∀ s, s ∈ nx → s / 256 < m) (x : CyS nx t m cu) : CyS nx (t + 1) 0 cu := by
  refine ⟨x.1, fun s => ?_⟩
  rw [x.2]
  constructor
  · rintro ⟨h1, h2⟩
    exact ⟨h1, by omega⟩
  · rintro ⟨h1, h2⟩
    have := hin s h1
    exact ⟨h1, by omega⟩
theorem CyS.len {nx cu : List Nat} {t c : Nat} (x : CyS nx t c cu) (h6 : ∀ s, s ∈ nx → s < 65536) : cu.length ≤ 65536 := nodup_len 65536 cu x.1 (fun s hs => h6 s ((x.2 s).mp hs).1)
theorem cy_scan {k : Nat} {ol nx : List Nat} {dp : Nat → Int32} {x3 x5 : Int32} (ms : MS0 h) (hn8 : n ≤ 8) (hk : k ≤ 1000) (hd : (ol ++ nx).Nodup) (hin : ∀ s, s ∈ ol ++ nx → inC R n s) (cd : CyD k ol nx dp)
    (kk : ∀ cu dq x8, cu.Nodup → (∀ s, s ∈ cu ↔ s ∈ nx) → CyQ cu dq → WP 200 213 [.ref 67, .int (nI b), .int (nI (2 ^ n)), .int x3, .int (nI k), .int x5, .int (nI cu.length), .int 0, x8] [] (PmH h dp dq) Q) :
    ∀ d t cu dq x8, 2 ^ n - t = d → t ≤ 2 ^ n → CyS nx t 0 cu → CyQ cu dq → WP 200 142 [.ref 67, .int (nI b), .int (nI (2 ^ n)), .int x3, .int (nI k), .int x5, .int (nI cu.length), .int (nI t), x8] [] (PmH h dp dq) Q := by
  have hr := PmH_r h
  have h256 : 2 ^ n ≤ 256 := p2_le (n := 8) hn8
  have hnx : ∀ s, s ∈ nx → s < 65536 := fun s hs => (hin s (List.mem_append_right _ hs)).lt hn8
  have inner : ∀ t, t < 2 ^ n → (∀ cu dq x8, CyS nx (t + 1) 0 cu → CyQ cu dq → WP 200 142 [.ref 67, .int (nI b), .int (nI (2 ^ n)), .int x3, .int (nI k), .int x5, .int (nI cu.length), .int (nI (t + 1)), x8] [] (PmH h dp dq) Q) → ∀ d c cu dq, 2 ^ n - c = d → c ≤ 2 ^ n → CyS nx t c cu → CyQ cu dq → WP 200 151 [.ref 67, .int (nI b), .int (nI (2 ^ n)), .int x3, .int (nI k), .int x5, .int (nI cu.length), .int (nI t), .int (nI c)] [] (PmH h dp dq) Q := by
    intro t ht kt d
    induction d with
    | zero =>
      intro c cu dq hd' hc cs cq
      have hle : nI (2 ^ n) ≤ nI c := nI_le (by omega) (by omega)
      have hcn : c = 2 ^ n := by omega
      rw [hcn] at cs
      rw [w200_151]
      simp only [w200_c, hle, zz, nI_1]
      exact kt cu dq _ (cs.row (fun s hs => (hin s (List.mem_append_right _ hs)).2.1)) cq
    | succ d ih =>
      intro c cu dq hd' hc cs cq
      have hcn : c < 2 ^ n := by omega
      have hle : ¬ nI (2 ^ n) ≤ nI c := nI_ge hcn (by omega)
      have hg := cod_lt (f := t) (o := c) (by omega) (by omega)
      have eg : nI (256 * t + c) = nI (sw (cod t c)) := by rw [sw_cod (by omega)]
      have hsw := sw_lt hg
      have c1 : (nI (sw (cod t c))).toNatClampNeg = sw (cod t c) := nI_clamp (by omega)
      have i1 : inb (nI (sw (cod t c))) 65536 = true := inb_nI hsw (by decide)
      have hlen := cs.len hnx
      have c3 : (nI cu.length).toNatClampNeg = cu.length := nI_clamp (by omega)
      have i3 : inb (nI cu.length) 131072 = true := inb_nI (by omega) (by decide)
      have his := cd.is (t := t) hk hd hg
      rw [w200_151]
      by_cases q : cod t c ∈ nx
      · simp only [w200_c, hr, ms, hle, mul256, eg, c1, i1, his, eq_true q, c3, i3, zz, nI_1]
        have := ih (c + 1) (cu ++ [cod t c]) _ (by omega) (by omega) (cs.yes (by omega) (by omega) q) cq.ad
        rw [List.length_append] at this
        exact this
      · simp only [w200_c, hr, ms, hle, mul256, eg, c1, i1, his, eq_false q, zz, nI_1]
        exact ih (c + 1) cu dq (by omega) (by omega) (cs.no (by omega) (by omega) q) cq
  intro d
  induction d with
  | zero =>
    intro t cu dq x8 hd' ht cs cq
    have hle : nI (2 ^ n) ≤ nI t := nI_le (by omega) (by omega)
    rw [w200_142]
    simp only [w200_b, w200_c, w200_d, hle, zz]
    refine kk cu dq x8 cs.1 (fun s => ?_) cq
    rw [cs.2]
    constructor
    · exact fun z => z.1
    · intro z
      have := (hin s (List.mem_append_right _ z)).1
      exact ⟨z, by omega⟩
  | succ d ih =>
    intro t cu dq x8 hd' ht cs cq
    have hle : ¬ nI (2 ^ n) ≤ nI t := nI_ge (by omega) (by omega)
    rw [w200_142]
    simp only [w200_b, w200_c, w200_d, hle, zz]
    have := inner t (by omega) (fun cu dq x8 cs cq => ih (t + 1) cu dq x8 (by omega) (by omega) cs cq) (2 ^ n) 0 cu dq rfl (Nat.zero_le _) cs cq
    rw [nI_0] at this
    exact this
theorem CyD.up {k : Nat} {ol cu : List Nat} {dp : Nat → Int32} (c : CyD k ol cu dp) : CyD (k + 1) (ol ++ cu) [] dp := by
  intro m hm
  obtain ⟨c1, c2⟩ := c m hm
  refine ⟨fun z => ?_, fun z => ?_⟩
  · by_cases q : sw m ∈ ol
    · obtain ⟨v, hv, e⟩ := c1 q
      exact ⟨v, by omega, e⟩
    · have q2 : sw m ∈ cu := (List.mem_append.mp z).resolve_left q
      have := c2 q
      rw [if_pos q2] at this
      exact ⟨k, by omega, this⟩
  · rw [c2 (fun q => z (List.mem_append_left _ q)), if_neg (fun q => z (List.mem_append_right _ q)), if_neg List.not_mem_nil]
theorem CyD.same {k : Nat} {ol cu cu' : List Nat} {dp : Nat → Int32} (c : CyD k ol cu dp) (hm : ∀ s, s ∈ cu' ↔ s ∈ cu) : CyD k ol cu' dp := by
  intro m h6
  obtain ⟨c1, c2⟩ := c m h6
  refine ⟨c1, fun z => ?_⟩
  rw [c2 z]
  by_cases q : sw m ∈ cu
  · rw [if_pos q, if_pos ((hm _).mpr q)]
  · rw [if_neg q, if_neg (fun y => q ((hm _).mp y))]
/-- carrying -/
theorem cy_p2 {k : Nat} {ol cu : List Nat} {dq : Nat → Int32} {x3 : Int32} (ms : MS0 h) (nt : MNt h n P wi) (po : PartsOK n P) (hn8 : n ≤ 8) (hb : b ≤ 14) (hwi : wi < 2 ^ n) (hk : k < 1000) (cq : CyQ cu dq)
    (k1 : ∀ dp, CyR (plT n P b) (caT n b) (cod 0 R) (eC wi) (nI k) → Q (some (.int (nI k))) (PmH h dp dq))
    (k2 : ∀ dp, CyR (plT n P b) (caT n b) (cod 0 R) (eC wi) (-1) → Q (some (.int (-1))) (PmH h dp dq))
    (k3 : ∀ nx dp x5 x6 x7 x8, CL (plT n P b) (caT n b) (cod 0 R) (eC wi) (k + 1) (ol ++ cu).length ((ol ++ cu) ++ nx) → (∀ s, s ∈ (ol ++ cu) ++ nx → inC R n s) → nx ≠ [] → CyD (k + 1) (ol ++ cu) nx dp → WP 200 125 [.ref 67, .int (nI b), .int (nI (2 ^ n)), .int x3, .int (nI (k + 1)), x5, x6, x7, x8] [] (PmH h dp dq) Q) :
    ∀ d i nx dp x8, cu.length - i = d → i ≤ cu.length → CB1 (plT n P b) (caT n b) (cod 0 R) (eC wi) k ol.length (ol ++ cu).length (ol.length + i) ((ol ++ cu) ++ nx) → (∀ s, s ∈ (ol ++ cu) ++ nx → inC R n s) → CyD (k + 1) (ol ++ cu) nx dp → WP 200 247 [.ref 67, .int (nI b), .int (nI (2 ^ n)), .int x3, .int (nI k), .int (if nx.length = 0 then 0 else 1), .int (nI cu.length), .int (nI i), x8] [] (PmH h dp dq) Q := by
  have hr := PmH_r h
  intro d
  induction d with
  | zero =>
    intro i nx dp x8 hd hi cb hin cd
    have p6 : Pm6 ((ol ++ cu) ++ nx) := ⟨cb.1, fun s hs => (hin s hs).lt hn8⟩
    have hlen := p6.len
    rw [List.length_append, List.length_append] at hlen
    have hle : nI cu.length ≤ nI i := nI_le (by omega) (by omega)
    have hie : ol.length + i = (ol ++ cu).length := by rw [List.length_append]; omega
    rw [hie] at cb
    have hcl := cb.next
    rw [w200_247]
    by_cases q : nx.length = 0
    · rw [if_pos q]
      simp only [w200_d, w200_e, hle, mz, zz]
      have hnil : nx = [] := List.length_eq_zero_iff.mp q
      rw [hnil, List.append_nil] at hcl
      exact k2 dp (hcl.stop (Nat.le_refl _))
    · rw [if_neg q]
      simp only [w200_d, w200_e, hle, mz, zz, nI_1]
      exact k3 nx dp _ _ _ _ hcl hin (fun z => q (by rw [z]; rfl)) cd
  | succ d ih =>
    intro i nx dp x8 hd hi cb hin cd
    have p6 : Pm6 ((ol ++ cu) ++ nx) := ⟨cb.1, fun s hs => (hin s hs).lt hn8⟩
    have hlen := p6.len
    rw [List.length_append, List.length_append] at hlen
    have hil : i < cu.length := by omega
    have hle : ¬ nI cu.length ≤ nI i := nI_ge hil (by omega)
    obtain ⟨s, hs⟩ : ∃ s, cu[i]? = some s := ⟨_, List.getElem?_eq_getElem hil⟩
    have hso : s ∈ ol ++ cu := List.mem_append_right _ (List.mem_of_getElem? hs)
    have hiu : ol.length + i < (ol ++ cu).length := by rw [List.length_append]; omega
    have hx : ((ol ++ cu) ++ nx)[ol.length + i]? = some s := by
      rw [List.getElem?_append_left hiu, List.getElem?_append_right (by omega), show ol.length + i - ol.length = i by omega]
      exact hs
    have hsC := hin s (List.mem_append_left _ hso)
    have hs6 : s < 65536 := hsC.lt hn8
    have hdq := cq i s hs
    have c1 : (nI i).toNatClampNeg = i := nI_clamp (by omega)
    have i1 : inb (nI i) 131072 = true := inb_nI (by omega) (by decide)
    obtain ⟨ed, er⟩ := sw_div hs6
    have hwi9 := s_lt po.1 hwi
    have ew := sdf0 (a := wi) (s := s / 256) (by omega)
    rw [w200_247]
    by_cases q : s / 256 &&& wi = wi
    · have he : eC wi s = true := by unfold eC; rw [decide_eq_true_eq]; exact q
      simp only [w200_d, w200_e, hr, ms, mz, hle, nt.2.1, c1, i1, hdq, ed, er, nI_sdf, ew, eq_true q, zz]
      exact k1 dp (cb.found hiu hx he (by omega))
    · have he : eC wi s = false := by unfold eC; rw [decide_eq_false_iff_not]; exact q
      have hcb := cb.step hiu hx he
      simp only [w200_d, w200_e, hr, ms, mz, hle, nt.2.1, c1, i1, hdq, ed, er, nI_sdf, ew, eq_false q, zz]
      refine s202 (k := k) ms nt hn8 hb hsC hso (by omega) p6 cd fun nx' dp' e' p6' cd' hl' => ?_
      rw [← e'] at hcb
      have hin' : ∀ s', s' ∈ (ol ++ cu) ++ nx' → inC R n s' := fun s' hs' => by
        obtain ⟨nw, g1, g2, g3, g4⟩ := adj_adds (caT n b s) ((ol ++ cu) ++ nx)
        rw [e', g1] at hs'
        rcases List.mem_append.mp hs' with z | z
        · exact hin s' z
        · exact hsC.ca hn8 (g3 s' z)
      have go := ih (i + 1) nx' dp' x8 (by omega) (by omega) hcb hin' cd'
      by_cases z1 : nx'.length = nx.length
      · rw [if_pos z1]
        rw [z1] at go
        by_cases z2 : nx.length = 0
        · rw [if_pos z2] at go ⊢
          simp only [w200_d, w200_e, mz, zz, nI_1]
          exact go
        · rw [if_neg z2] at go ⊢
          simp only [w200_d, w200_e, mz, zz, nI_1]
          exact go
      · rw [if_neg z1]
        rw [if_neg (show ¬ nx'.length = 0 by omega)] at go
        simp only [w200_d, w200_e, mz, zz, nI_1]
        exact go
/-- making and washing -/
theorem cy_p1 {k : Nat} {ol : List Nat} {x3 : Int32} (ms : MS0 h) (nt : MNt h n P wi) (hraw : ∀ x, x < n → hI h 74 x = if P x = 0 then 1 else 0) (po : PartsOK n P) (hn8 : n ≤ 8) (hb : b ≤ 14) (hk : k < 1000)
    (kk : ∀ cu dp dq x8, CA1 (plT n P b) (caT n b) (cod 0 R) (eC wi) k ol.length (ol ++ cu).length (ol ++ cu) → cu ≠ [] → (∀ s, s ∈ ol ++ cu → inC R n s) → CyD k ol cu dp → CyQ cu dq → WP 200 247 [.ref 67, .int (nI b), .int (nI (2 ^ n)), .int x3, .int (nI k), .int 0, .int (nI cu.length), .int 0, x8] [] (PmH h dp dq) Q) :
    ∀ d i cu dp dq x8, 65536 - i = d → i ≤ cu.length → cu ≠ [] → CA1 (plT n P b) (caT n b) (cod 0 R) (eC wi) k ol.length (ol.length + i) (ol ++ cu) → (∀ s, s ∈ ol ++ cu → inC R n s) → CyD k ol cu dp → CyQ cu dq → WP 200 213 [.ref 67, .int (nI b), .int (nI (2 ^ n)), .int x3, .int (nI k), .int 0, .int (nI cu.length), .int (nI i), x8] [] (PmH h dp dq) Q := by
  have hr := PmH_r h
  have fin : ∀ cu dp dq i x8, i = cu.length → cu.length ≤ 65536 → cu ≠ [] → CA1 (plT n P b) (caT n b) (cod 0 R) (eC wi) k ol.length (ol.length + i) (ol ++ cu) → (∀ s, s ∈ ol ++ cu → inC R n s) → CyD k ol cu dp → CyQ cu dq → WP 200 213 [.ref 67, .int (nI b), .int (nI (2 ^ n)), .int x3, .int (nI k), .int 0, .int (nI cu.length), .int (nI i), x8] [] (PmH h dp dq) Q := by
    intro cu dp dq i x8 hi hl hne ca hin cd cq
    have hle : nI cu.length ≤ nI i := nI_le (by omega) (by omega)
    rw [w200_213]
    simp only [w200_c, w200_d, hle, zz]
    refine kk cu dp dq x8 ?_ hne hin cd cq
    rw [List.length_append, ← hi]
    exact ca
  intro d
  induction d with
  | zero =>
    intro i cu dp dq x8 hd hi hne ca hin cd cq
    have p6 : Pm6 (ol ++ cu) := ⟨ca.1.1, fun s hs => (hin s hs).lt hn8⟩
    have hlen := p6.len
    rw [List.length_append] at hlen
    exact fin cu dp dq i x8 (by omega) (by omega) hne ca hin cd cq
  | succ d ih =>
    intro i cu dp dq x8 hd hi hne ca hin cd cq
    have p6 : Pm6 (ol ++ cu) := ⟨ca.1.1, fun s hs => (hin s hs).lt hn8⟩
    have hlen := p6.len
    rw [List.length_append] at hlen
    by_cases hil : i < cu.length
    · have hle : ¬ nI cu.length ≤ nI i := nI_ge hil (by omega)
      obtain ⟨s, hs⟩ : ∃ s, cu[i]? = some s := ⟨_, List.getElem?_eq_getElem hil⟩
      have hx : (ol ++ cu)[ol.length + i]? = some s := by
        rw [List.getElem?_append_right (by omega), show ol.length + i - ol.length = i by omega]
        exact hs
      have hsC := hin s (List.mem_append_right _ (List.mem_of_getElem? hs))
      have hdq := cq i s hs
      have c1 : (nI i).toNatClampNeg = i := nI_clamp (by omega)
      have i1 : inb (nI i) 131072 = true := inb_nI (by omega) (by decide)
      have hca := ca.step hx
      rw [w200_213]
      simp only [w200_c, w200_d, hr, ms, hle, c1, i1, hdq, zz]
      refine s201 (k := k) ms nt hraw po hn8 hb hsC (by omega) p6 cd cq fun cu' dp' dq' e' p6' cd' cq' => ?_
      rw [← e'] at hca
      obtain ⟨nw, g1, g2, g3, g4⟩ := adj_adds (plT n P b s) (ol ++ cu)
      have e2 : cu' = cu ++ nw := by
        rw [g1, List.append_assoc] at e'
        exact List.append_cancel_left e'
      have hin' : ∀ s', s' ∈ ol ++ cu' → inC R n s' := fun s' hs' => by
        rw [e', g1] at hs'
        rcases List.mem_append.mp hs' with z | z
        · exact hin s' z
        · exact hsC.pl hn8 (g3 s' z)
      simp only [w200_d, zz, nI_1]
      refine ih (i + 1) cu' dp' dq' x8 (by omega) (by rw [e2, List.length_append]; omega) (fun z => ?_) hca hin' cd' cq'
      rw [e2] at z
      exact hne (List.append_eq_nil_iff.mp z).1
    · exact fin cu dp dq i x8 (by omega) (by omega) hne ca hin cd cq
theorem cy_main {x3 : Int32} (ms : MS0 h) (nt : MNt h n P wi) (hraw : ∀ x, x < n → hI h 74 x = if P x = 0 then 1 else 0) (po : PartsOK n P) (hn8 : n ≤ 8) (hb : b ≤ 14) (hwi : wi < 2 ^ n) (hR : R < 2 ^ n) (hR0 : R ≠ 0)
    (kk : ∀ r dp dq, CyR (plT n P b) (caT n b) (cod 0 R) (eC wi) r → Q (some (.int r)) (PmH h dp dq)) :
    ∀ d k ol nx dp dq x5 x6 x7 x8, 1000 - k = d → k ≤ 1000 → CL (plT n P b) (caT n b) (cod 0 R) (eC wi) k ol.length (ol ++ nx) → (∀ s, s ∈ ol ++ nx → inC R n s) → nx ≠ [] → CyD k ol nx dp → WP 200 125 [.ref 67, .int (nI b), .int (nI (2 ^ n)), .int x3, .int (nI k), x5, x6, x7, x8] [] (PmH h dp dq) Q := by
  intro d
  induction d with
  | zero =>
    intro k ol nx dp dq x5 x6 x7 x8 hd hk cl hin hne cd
    have hle : (1000 : Int32) ≤ nI k := nI_le (a := 1000) (by omega) (by omega)
    rw [w200_125]
    simp only [w200_b, w200_e, hle, zz]
    refine kk _ dp dq (Or.inl ⟨rfl, fun k' s hs => ?_⟩)
    cases he : eC wi s with
    | false => rfl
    | true =>
      obtain ⟨j, s', hj, h1, h2⟩ := cy_903 hn8 hR hR0 hs he
      have := cl.2.2.2.2.2.2.1 j s' (by omega) h1
      rw [this] at h2
      cases h2
  | succ d ih =>
    intro k ol nx dp dq x5 x6 x7 x8 hd hk cl hin hne cd
    have hle : ¬ (1000 : Int32) ≤ nI k := nI_ge (b := 1000) (by omega) (by decide)
    rw [w200_125]
    simp only [w200_b, w200_c, hle, zz]
    have sc := cy_scan (h := h) (b := b) (Q := Q) (x3 := x3) (x5 := 0) (k := k) (ol := ol) (nx := nx) (dp := dp) ms hn8 hk cl.1 hin cd (fun cu dq' x8 hnd hm cq => ?_) (2 ^ n) 0 [] dq x8 rfl (Nat.zero_le _) ⟨by simp, fun s => by simp⟩ (fun j s hj => by cases hj)
    · rw [nI_0] at sc
      exact sc
    · have cl' := cl.reord hnd hm
      have hin' : ∀ s, s ∈ ol ++ cu → inC R n s := fun s hs => hin s (by
        rcases List.mem_append.mp hs with z | z
        · exact List.mem_append_left _ z
        · exact List.mem_append_right _ ((hm s).mp z))
      have hne' : cu ≠ [] := fun z => hne (List.eq_nil_iff_forall_not_mem.mpr fun s hs => by
        have := (hm s).mpr hs
        rw [z] at this
        exact absurd this List.not_mem_nil)
      have p1 := cy_p1 (h := h) (b := b) (R := R) (Q := Q) (x3 := x3) (k := k) (ol := ol) ms nt hraw po hn8 hb (by omega) (fun cu2 dp2 dq2 x8' ca2 hne2 hin2 cd2 cq2 => ?_) 65536 0 cu dp dq' x8 rfl (Nat.zero_le _) hne' cl'.a1 hin' (cd.same hm) cq
      · rw [nI_0] at p1
        exact p1
      · have hfr : ol.length < (ol ++ cu2).length := by
          rw [List.length_append]
          have : cu2.length ≠ 0 := fun z => hne2 (List.length_eq_zero_iff.mp z)
          omega
        have cb := ca2.b1 (Nat.le_refl _) hfr
        have p2 := cy_p2 (h := h) (b := b) (R := R) (Q := Q) (x3 := x3) (k := k) (ol := ol) (cu := cu2) (dq := dq2) ms nt po hn8 hb hwi (by omega) cq2 (fun dp3 c => kk _ dp3 dq2 c) (fun dp3 c => kk _ dp3 dq2 c) (fun nx3 dp3 y5 y6 y7 y8 cl3 hin3 hne3 cd3 => ih (k + 1) (ol ++ cu2) nx3 dp3 dq2 y5 y6 y7 y8 (by omega) (by omega) cl3 hin3 hne3 cd3) cu2.length 0 [] dp2 x8' rfl (Nat.zero_le _) (by rw [List.append_nil]; exact cb) (by rw [List.append_nil]; exact hin2) cd2.up
        rw [nI_0] at p2
        exact p2
theorem s200 (ms : MS0 h) (nt : MNt h n P wi) (hraw : ∀ x, x < n → hI h 74 x = if P x = 0 then 1 else 0) (po : PartsOK n P) (hn0 : 0 < n) (hn8 : n ≤ 8) (hb1 : 1 ≤ b) (hb : b ≤ 8) (hwi : wi < 2 ^ n) (hR : R < 2 ^ n) (hRb : ∀ k, k < n → R.testBit k = decide (P k = 0))
    (kk : ∀ h' r, CyR (plT n P b) (caT n b) (cod 0 R) (eC wi) r → MPm h h' → Q (some (.int r)) h') : WPM 200 [.ref 67, .int (nI b)] h Q := by
  have m0 : MPm h (sI h 67 0 0) := MO.rf.sI67 0 rfl
  have ms1 := m0.ms ms
  have nt1 := MPm.nt m0 nt
  have hraw1 : ∀ x, x < n → hI (sI h 67 0 0) 74 x = if P x = 0 then 1 else 0 := hraw
  have k1 : ∀ r dp dq, CyR (plT n P b) (caT n b) (cod 0 R) (eC wi) r → Q (some (.int r)) (PmH (sI h 67 0 0) dp dq) := fun r dp dq c => kk _ r c (m0.trans (PmH_mo _ dp dq))
  have hne : ¬ nI n = 0 := nI_ne0 hn0 (by omega)
  have hle8 : nI n ≤ (8 : Int32) := nI_le (b := 8) hn8 (by decide)
  have q : (1 : Int32) ≤ nI b ∧ nI b ≤ (8 : Int32) := ⟨nI_le (a := 1) hb1 (by omega), nI_le (b := 8) hb (by decide)⟩
  have hpw : (1 : Int32) <<< (nI n &&& 31) = nI (2 ^ n) := nI_pow n (by omega)
  have hp0 : P 0 = 0 := by have := (po.2 0 hn0).1; omega
  have hR0 : R ≠ 0 := fun z => by
    have := hRb 0 hn0
    rw [z, Nat.zero_testBit, hp0] at this
    simp at this
  have hR6 := lt256 hR hn8
  rw [we200]
  simp only [w200_a, ms, mz, hs_sI, e72z, nt.1, s150, if_pos q, hne, hle8, hpw, zz]
  generalize sI h 67 0 0 = h1 at ms1 nt1 hraw1 k1 ⊢
  have hr := PmH_r h1
  have fill : ∀ d x dp, 65536 - x = d → x ≤ 65536 → (∀ y, y < x → dp y = nI 1000000000) → WP 200 93 [.ref 67, .int (nI b), .int (nI (2 ^ n)), .int (nI R), .int (nI x), .retAddr 0, .retAddr 0, .retAddr 0, .retAddr 0] [] (PmH h1 dp (hI h1 91)) Q := by
    intro d
    induction d with
    | zero =>
      intro x dp hd hx hf
      have hle : nI 65536 ≤ nI x := nI_le (by omega) (by omega)
      have c1 : (nI R).toNatClampNeg = R := nI_clamp (by omega)
      have i1 : inb (nI R) 65536 = true := inb_nI (by omega) (by decide)
      rw [w200_93]
      simp only [w200_b, hle, hr, ms1, c1, i1, zz]
      have hone : ∀ y : Nat, y ∈ [cod 0 R] → y = cod 0 R := fun y hy => by simpa using hy
      have hc6 : cod 0 R < 65536 := cod_lt (by decide) hR6
      have hsw : sw (cod 0 R) = R := by rw [sw_cod (by decide)]; omega
      have hinC : inC R n (cod 0 R) := by
        unfold inC
        rw [cod_lo (by decide), cod_hi (by decide)]
        exact ⟨Nat.pow_pos (by decide), hR, fun i hi => hi⟩
      have := cy_main (h := h1) (x3 := nI R) (Q := Q) ms1 nt1 hraw1 po hn8 (show b ≤ 14 by omega) hwi hR hR0 k1 1000 0 [] [cod 0 R] (va_up dp R 0) (hI h1 91) (.retAddr 0) (.retAddr 0) (.retAddr 0) (.retAddr 0) rfl (by decide) CL.start (fun s hs => by rw [hone s hs]; exact hinC) (by simp) (fun m hm => ⟨fun z => absurd z List.not_mem_nil, fun _ => ?_⟩)
      · rw [nI_0] at this
        exact this
      · rw [up_at]
        by_cases z : m = R
        · have : sw m = cod 0 R := by have y := sw_sw hc6; rw [hsw] at y; rw [z]; exact y
          rw [if_pos z, if_pos (by rw [this]; exact List.mem_singleton.mpr rfl), nI_0]
        · have hsm : sw m ≠ cod 0 R := fun y => z (by have := sw_sw hm; rw [y, hsw] at this; exact this.symm)
          rw [if_neg z, if_neg (fun y => hsm (hone _ y))]
          exact hf m (by omega)
    | succ d ih =>
      intro x dp hd hx hf
      have hle : ¬ nI 65536 ≤ nI x := nI_ge (by omega) (by decide)
      have c1 : (nI x).toNatClampNeg = x := nI_clamp (by omega)
      have i1 : inb (nI x) 65536 = true := inb_nI (by omega) (by decide)
      rw [w200_93]
      simp only [w200_b, hle, hr, ms1, c1, i1, zz, nI_1]
      refine ih (x + 1) _ (by omega) (by omega) (fun y hy => ?_)
      rw [up_at]
      by_cases q : y = x
      · rw [if_pos q]
      · rw [if_neg q]
        exact hf y (by omega)
  have e0 : PmH h1 (hI h1 90) (hI h1 91) = h1 := by
    unfold PmH
    rw [setI_id, setI_id]
  have raw : ∀ d x, n - x = d → x ≤ n → WP 200 52 [.ref 67, .int (nI b), .int (nI (2 ^ n)), .int (nI (R % 2 ^ x)), .int (nI x), .retAddr 0, .retAddr 0, .retAddr 0, .retAddr 0] [] h1 Q := by
    intro d
    induction d with
    | zero =>
      intro x hd hx
      have hxn : x = n := by omega
      have hle : nI n ≤ nI x := nI_le (by omega) (by omega)
      rw [w200_52]
      simp only [w200_a, w200_b, ms1, mz, nt1.1, hle, zz]
      rw [hxn, Nat.mod_eq_of_lt hR]
      have := fill 65536 0 (hI h1 90) rfl (by decide) (fun y hy => absurd hy (Nat.not_lt_zero _))
      rw [e0, nI_0] at this
      exact this
    | succ d ih =>
      intro x hd hx
      have hxn : x < n := by omega
      have hle : ¬ nI n ≤ nI x := nI_ge hxn (by omega)
      have c1 : (nI x).toNatClampNeg = x := nI_clamp (by omega)
      have i1 : inb (nI x) 28 = true := inb_nI (by omega) (by decide)
      have pw : (1 : Int32) <<< (nI x &&& 31) = nI (2 ^ x) := nI_pow x (by omega)
      have r0 := hraw1 x hxn
      have hb0 := hRb x hxn
      have go := ih (x + 1) (by omega) (by omega)
      rw [raw_mod] at go
      have o0 : ∀ a : Int32, a ||| 0 = a := fun a => Int32.or_zero
      rw [w200_52]
      by_cases z : P x = 0
      · rw [if_pos z] at r0
        rw [if_pos (by rw [hb0]; simpa using z)] at go
        simp only [w200_a, w200_b, ms1, mz, nt1.1, hle, c1, i1, r0, pw, nI_or, zz, nI_1]
        exact go
      · rw [if_neg z] at r0
        rw [if_neg (by rw [hb0]; simpa using z), Nat.or_zero] at go
        simp only [w200_a, w200_b, ms1, mz, nt1.1, hle, c1, i1, r0, o0, zz, nI_1]
        exact go
  have := raw n 0 rfl (Nat.zero_le _)
  rw [Nat.pow_zero, Nat.mod_one, nI_0] at this
  exact this
theorem s200f (ms : MS0 h) (h72 : hI h 72 0 = nI n) (hn : n ≤ 14) (v : Int32) (hq : ¬ ((1 ≤ v ∧ v ≤ 8) ∧ 0 < n ∧ n ≤ 8)) : WPM 200 [.ref 67, .int v] h Q ↔ Q (some (.int (-2))) (sI h 67 0 0) := by
  rw [we200]
  by_cases q : (1 : Int32) ≤ v ∧ v ≤ 8
  · rcases Nat.eq_zero_or_pos n with z | z
    · have hz : nI n = 0 := by rw [z]; exact nI_0
      simp only [w200_a, ms, mz, hs_sI, e72z, h72, s150, if_pos q, hz, zz]
    · have hne : ¬ nI n = 0 := nI_ne0 z (by omega)
      have h8 : ¬ n ≤ 8 := fun y => hq ⟨q, z, y⟩
      have hle : ¬ nI n ≤ (8 : Int32) := nI_ge (a := 8) (by omega) (by omega)
      simp only [w200_a, ms, mz, hs_sI, e72z, h72, s150, if_pos q, hne, hle, zz]
  · simp only [w200_a, ms, mz, hs_sI, e72z, h72, s150, if_neg q, zz]
end Cr2

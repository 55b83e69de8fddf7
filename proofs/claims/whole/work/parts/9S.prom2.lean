/-! ===== the reference's promised: whole ===== -/
section Pm2
variable {h : AH} {n b wi : Nat} {P : Nat → Nat} {Q : Option Value → AH → Prop}
theorem mem_mpL {s t : Nat} (hi : inP n s) : t ∈ (List.range n).flatMap (mpT P (s % 256) (s / 256) b) ↔ t ∈ prL n P b s := by
  unfold prL
  rw [List.mem_flatMap, List.mem_flatMap]
  constructor
  · rintro ⟨x, h1, h2⟩
    exact ⟨x, mem_r0.mpr (List.mem_range.mp h1), (mem_mpT hi.2.2).mp h2⟩
  · rintro ⟨x, h1, h2⟩
    exact ⟨x, List.mem_range.mpr (mem_r0.mp h1), (mem_mpT hi.2.2).mpr h2⟩
def PmI (n b wi : Nat) (P : Nat → Nat) (qs : List Nat) (i : Nat) : Prop := (∀ s, s ∈ qs → PRc n P b s) ∧ 0 ∈ qs ∧ ∀ j s, j < i → qs[j]? = some s → (∀ t, t ∈ prL n P b s → t ∈ qs) ∧ ¬ eP wi s
theorem inP_lt {s : Nat} (hn : n ≤ 8) (h : inP n s) : s < 65536 := by
  have h1 := lt256 h.1 hn
  have h2 := lt256 h.2.1 hn
  omega
theorem pm_out (ms : MS0 h) (nt : MNt h n P wi) (po : PartsOK n P) (hn8 : n ≤ 8) (hb : b ≤ 14) (hwi : wi < 2 ^ n)
    (k : ∀ r dp dq, ((r = 1 ∧ ∃ s, PRc n P b s ∧ eP wi s) ∨ (r = 0 ∧ ∀ s, PRc n P b s → ¬ eP wi s)) → Q (some (.int r)) (PmH h dp dq)) :
    ∀ d i qs dp dq y4 y5 y6 y7 y8 y9, 65536 - i = d → i ≤ qs.length → Pm6 qs → PmI n b wi P qs i → PmR qs dp dq → WP 206 40 [.ref 67, .int (nI b), .int (nI qs.length), .int (nI i), y4, y5, y6, y7, y8, y9] [] (PmH h dp dq) Q := by
  have hr := PmH_r h
  have fin : ∀ qs dp dq, PmI n b wi P qs qs.length → Q (some (.int 0)) (PmH h dp dq) := fun qs dp dq pi => by
    refine k 0 dp dq (Or.inr ⟨rfl, fun s hs => ?_⟩)
    have hall : ∀ t, PRc n P b t → t ∈ qs := clo.in (fun t => t ∈ qs) (fun t ht => by rw [ht]; exact pi.2.1) (fun s t h1 h2 => by
      obtain ⟨j, hj⟩ := List.getElem?_of_mem h1
      obtain ⟨hl, -⟩ := List.getElem?_eq_some_iff.mp hj
      exact (pi.2.2 j s hl hj).1 t h2)
    obtain ⟨j, hj⟩ := List.getElem?_of_mem (hall s hs)
    obtain ⟨hl, -⟩ := List.getElem?_eq_some_iff.mp hj
    exact (pi.2.2 j s hl hj).2
  intro d
  induction d with
  | zero =>
    intro i qs dp dq y4 y5 y6 y7 y8 y9 hd hi p6 pi pr
    have hl := p6.len
    have hiq : i = qs.length := by omega
    have hle : nI qs.length ≤ nI i := nI_le (by omega) (by omega)
    rw [w206_40]
    simp only [w206_a, w206_e, hle, zz]
    exact fin qs dp dq (by rw [← hiq]; exact pi)
  | succ d ih =>
    intro i qs dp dq y4 y5 y6 y7 y8 y9 hd hi p6 pi pr
    have hl := p6.len
    by_cases hiq : i = qs.length
    · have hle : nI qs.length ≤ nI i := nI_le (by omega) (by omega)
      rw [w206_40]
      simp only [w206_a, w206_e, hle, zz]
      exact fin qs dp dq (by rw [← hiq]; exact pi)
    · have hil : i < qs.length := by omega
      have hle : ¬ nI qs.length ≤ nI i := nI_ge hil (by omega)
      obtain ⟨s, hs⟩ : ∃ s, qs[i]? = some s := ⟨_, List.getElem?_eq_getElem hil⟩
      have hsq := List.mem_of_getElem? hs
      have hPs := pi.1 s hsq
      obtain ⟨hin, hpcs⟩ := PRc.in hn8 s hPs
      have hf6 := lt256 hin.1 hn8
      have ho6 := lt256 hin.2.1 hn8
      have hdq := pr.1 i s hs
      have c1 : (nI i).toNatClampNeg = i := nI_clamp (by omega)
      have i1 : inb (nI i) 131072 = true := inb_nI (by omega) (by decide)
      have hsw : sw s = 256 * (s % 256) + s / 256 := rfl
      have ed : nI (sw s) / 256 = nI (s % 256) := by
        have := pk_div (a := sw s) (d := 256) (by omega) (by decide) (by decide)
        rw [show sw s / 256 = s % 256 by omega] at this
        exact this
      have er : nI (sw s) - nI (s % 256) * 256 = nI (s / 256) := by
        have h1 := pk_mul (s % 256) 256
        have h2 := pk_sub (a := sw s) (b := s % 256 * 256) (by omega)
        rw [show sw s - s % 256 * 256 = s / 256 by omega, ← h1] at h2
        exact h2
      have eo : (nI (s / 256) = 0) ↔ s / 256 = 0 := by
        have := nI_eq (a := s / 256) (b := 0) (by omega) (by decide)
        exact this
      have hwi9 := s_lt po.1 hwi
      have ew := sdf0 (a := wi) (s := s % 256) (by omega)
      have heP : eP wi s ↔ s / 256 = 0 ∧ s % 256 &&& wi = wi := by
        unfold eP
        constructor
        · rintro ⟨h1, h2⟩
          refine ⟨by omega, ?_⟩
          rw [Nat.mod_eq_of_lt h1]
          exact h2
        · rintro ⟨h1, h2⟩
          have h3 : s < 256 := by omega
          rw [Nat.mod_eq_of_lt h3] at h2
          exact ⟨h3, h2⟩
      have next : ¬ eP wi s → WP 206 93 [.ref 67, .int (nI b), .int (nI qs.length), .int (nI i), .int (nI (s % 256)), .int (nI (s / 256)), .int 0, y7, y8, y9] [] (PmH h dp dq) Q := fun hne => by
        have go := pm_in (Q := Q) (i := i) ms nt po hn8 hb hin.1 hin.2.1 (qs0 := qs) (fun qs' dp' dq' z6 z7 z8 z9 hq' p6' pr' => ?_) n 0 qs dp dq y7 y8 y9 rfl (Nat.zero_le _) rfl p6 pr
        · rw [nI_0] at go
          exact go
        · obtain ⟨nw, g1, g2, g3, g4⟩ := adj_adds ((List.range n).flatMap (mpT P (s % 256) (s / 256) b)) qs
          rw [← hq'] at g1
          have hsub : ∀ t, t ∈ qs → t ∈ qs' := fun t ht => by rw [g1]; exact List.mem_append_left _ ht
          refine ih (i + 1) qs' dp' dq' _ _ _ _ _ _ (by omega) (by rw [g1, List.length_append]; omega) p6' ⟨fun t ht => ?_, hsub 0 pi.2.1, fun j t hj ht => ?_⟩ pr'
          · rw [g1] at ht
            rcases List.mem_append.mp ht with z | z
            · exact pi.1 t z
            · exact hPs.st ((mem_mpL hin).mp (g3 t z))
          · by_cases z : j = i
            · have ht' : t = s := by
                rw [z, g1, List.getElem?_append_left hil, hs] at ht
                exact (Option.some.inj ht).symm
              rw [ht']
              refine ⟨fun u hu => ?_, hne⟩
              rw [g1]
              exact g4 u ((mem_mpL hin).mpr hu)
            · have hjq : j < qs.length := by omega
              rw [g1, List.getElem?_append_left hjq] at ht
              obtain ⟨a1, a2⟩ := pi.2.2 j t (by omega) ht
              exact ⟨fun u hu => hsub u (a1 u hu), a2⟩
      rw [w206_40]
      by_cases q1 : s / 256 = 0
      · by_cases q2 : s % 256 &&& wi = wi
        · simp only [w206_a, w206_b, hle, hr, ms, mz, c1, i1, hdq, ed, er, eo, eq_true q1, nt.2.1, nI_sdf, ew, eq_true q2, zz]
          exact k 1 dp dq (Or.inl ⟨rfl, s, hPs, heP.mpr ⟨q1, q2⟩⟩)
        · simp only [w206_a, w206_b, hle, hr, ms, mz, c1, i1, hdq, ed, er, eo, eq_true q1, nt.2.1, nI_sdf, ew, eq_false q2, zz]
          exact next (fun z => q2 (heP.mp z).2)
      · simp only [w206_a, w206_b, hle, hr, ms, mz, c1, i1, hdq, ed, er, eo, eq_false q1, zz]
        exact next (fun z => q1 (heP.mp z).1)
theorem s206 (ms : MS0 h) (nt : MNt h n P wi) (po : PartsOK n P) (hn8 : n ≤ 8) (hb : b ≤ 14) (hwi : wi < 2 ^ n)
    (k : ∀ r dp dq, ((r = 1 ∧ ∃ s, PRc n P b s ∧ eP wi s) ∨ (r = 0 ∧ ∀ s, PRc n P b s → ¬ eP wi s)) → Q (some (.int r)) (PmH h dp dq)) : WPM 206 [.ref 67, .int (nI b)] h Q := by
  have hr := PmH_r h
  have fill : ∀ d x dp, 65536 - x = d → x ≤ 65536 → (∀ y, y < x → dp y = nI 1000000000) → WP 206 2 [.ref 67, .int (nI b), .int (nI x), .retAddr 0, .retAddr 0, .retAddr 0, .retAddr 0, .retAddr 0, .retAddr 0, .retAddr 0] [] (PmH h dp (hI h 91)) Q := by
    intro d
    induction d with
    | zero =>
      intro x dp hd hx hf
      have hle : nI 65536 ≤ nI x := nI_le (by omega) (by omega)
      have i0 : inb 0 65536 = true := by decide +kernel
      have i0' : inb 0 131072 = true := by decide +kernel
      rw [w206_2]
      simp only [w206_a, hle, hr, ms, mz, i0, i0', zz]
      have hone : ∀ y : Nat, y ∈ [0] → y = 0 := fun y hy => by simpa using hy
      have := pm_out (Q := Q) ms nt po hn8 hb hwi k 65536 0 [0] (va_up dp 0 0) (va_up (hI h 91) 0 0) (.retAddr 0) (.retAddr 0) (.retAddr 0) (.retAddr 0) (.retAddr 0) (.retAddr 0) rfl (Nat.zero_le _) ⟨by simp, fun s hs => by rw [hone s hs]; decide⟩ ⟨fun s hs => by rw [hone s hs]; exact clo.of rfl, by simp, fun j s hj => absurd hj (Nat.not_lt_zero _)⟩ ⟨fun j s hj => ?_, fun m hm => ?_⟩
      · rw [nI_0] at this
        exact this
      · rw [hone s (List.mem_of_getElem? hj)]
        have hj0 : j = 0 := by
          rcases Nat.eq_zero_or_pos j with z | z
          · exact z
          · rw [List.getElem?_eq_none (by simp; omega)] at hj
            cases hj
        rw [hj0]
        exact nI_0.symm
      · rw [up_at]
        by_cases z : m = 0
        · rw [if_pos z, if_pos (by rw [z]; exact List.mem_singleton.mpr rfl)]
        · have hsm : sw m ≠ 0 := fun y => z (by have := sw_sw hm; rw [y] at this; exact this.symm)
          rw [if_neg z, if_neg (fun y => hsm (hone _ y))]
          exact hf m (by omega)
    | succ d ih =>
      intro x dp hd hx hf
      have hle : ¬ nI 65536 ≤ nI x := nI_ge (by omega) (by decide)
      have c1 : (nI x).toNatClampNeg = x := nI_clamp (by omega)
      have i1 : inb (nI x) 65536 = true := inb_nI (by omega) (by decide)
      rw [w206_2]
      simp only [w206_a, hle, hr, ms, c1, i1, zz, nI_1]
      refine ih (x + 1) _ (by omega) (by omega) (fun y hy => ?_)
      rw [up_at]
      by_cases q : y = x
      · rw [if_pos q]
      · rw [if_neg q]
        exact hf y (by omega)
  have e0 : PmH h (hI h 90) (hI h 91) = h := by
    unfold PmH
    rw [setI_id, setI_id]
  rw [we206]
  simp only [w206_a]
  have := fill 65536 0 (hI h 90) rfl (by decide) (fun y hy => absurd hy (Nat.not_lt_zero _))
  rw [e0, nI_0] at this
  exact this
def mpA (a : Nat) : Prop := a = 90 ∨ a = 91
abbrev MPm (h h' : AH) : Prop := MO mpA mbS nP nP h h'
theorem PmH_mo (h : AH) (dp dq : Nat → Int32) : MPm h (PmH h dp dq) := (MO.rf.rI dp (Or.inl rfl)).rI dq (Or.inr rfl)
theorem MPm.nt {h1 : AH} (m : MPm h h1) (nt : MNt h n P wi) : MNt h1 n P wi := nt.mo m (by unfold mpA; omega) (by unfold mpA; omega) (by unfold mpA; omega)
theorem PRc.cap {b : Nat} (hn : n ≤ 8) (hb : n ≤ b) : ∀ s, PRc n P b s → PRc n P n s := by
  refine clo.in (fun s => PRc n P n s) (fun t ht => clo.of ht) (fun s t h1 h2 => ?_)
  obtain ⟨hin, hp⟩ := PRc.in hn s h1
  have hle : pc (s % 256 ||| s / 256) ≤ n := hp
  refine h1.st ?_
  unfold prL at h2 ⊢
  rw [List.mem_flatMap] at h2 ⊢
  obtain ⟨x, hx, ht⟩ := h2
  refine ⟨x, hx, ?_⟩
  unfold prT at ht ⊢
  by_cases q1 : (s % 256).testBit x = true
  · rw [if_pos q1] at ht ⊢
    exact ht
  · rw [if_neg q1] at ht ⊢
    by_cases q2 : (s / 256).testBit x = true
    · rw [if_pos q2] at ht ⊢
      exact ht
    · rw [if_neg q2] at ht ⊢
      have hxn := mem_r0.mp hx
      have hlt : pc (s % 256 ||| s / 256) < n := by
        have hnx : (s % 256 ||| s / 256).testBit x = false := by
          rw [Nat.testBit_or]
          have a1 : (s % 256).testBit x = false := by simpa using q1
          have a2 : (s / 256).testBit x = false := by simpa using q2
          rw [a1, a2]
          rfl
        have h3 := pc_set hnx (by omega)
        have h4 : (s % 256 ||| s / 256) ||| 2 ^ x < 2 ^ n := or_lt2 (or_lt2 hin.1 hin.2.1) (p2_lt hxn)
        have := pc_lt h4 (by omega)
        omega
      rw [if_pos hlt]
      split at ht
      · exact ht
      · exact absurd ht List.not_mem_nil
theorem PRc.z0 (hn : n ≤ 8) (hw0 : 0 < wi) (hwi : wi < 2 ^ n) : ∀ s, PRc n P 0 s → ¬ eP wi s := by
  intro s hs he
  obtain ⟨hin, hp⟩ := PRc.in hn s hs
  have h256 : s < 256 := he.1
  have hwp := pc_pos (v := wi) (by omega) (by have := lt256 hwi hn; omega)
  have h1 : sub wi (s % 256 ||| s / 256) := by
    rw [Nat.mod_eq_of_lt h256, show s / 256 = 0 by omega, Nat.or_zero]
    exact sub_and.mpr he.2
  have h2 := sub_pc h1
  have h3 : pc (s % 256 ||| s / 256) ≤ 0 := hp
  omega
theorem s205 (ms : MS0 h) (nt : MNt h n P wi) (po : PartsOK n P) (hn0 : 0 < n) (hn8 : n ≤ 8) (hw0 : 0 < wi) (hwi : wi < 2 ^ n)
    (k : ∀ h' r, PrR n P wi r → MPm h h' → Q (some (.int r)) h') : WPM 205 [.ref 67] h Q := by
  have lp : ∀ d c h1, 9 - c = d → 1 ≤ c → c ≤ 9 → MPm h h1 → (∀ j, j < c → ∀ s, PRc n P j s → ¬ eP wi s) → WP 205 29 [.ref 67, .int (nI c)] [] h1 Q := by
    intro d
    induction d with
    | zero =>
      intro c h1 hd hc1 hc mp hno
      have hlt : (8 : Int32) < nI c := nI_lt (a := 8) (by omega) (by omega)
      rw [w205_29]
      simp only [w205, hlt, zz]
      exact k h1 _ (Or.inl ⟨rfl, fun b s hb => hno b (by omega) s⟩) mp
    | succ d ih =>
      intro c h1 hd hc1 hc mp hno
      have hlt : ¬ (8 : Int32) < nI c := nI_nlt (b := c) (a := 8) (by omega) (by decide)
      have ms1 := mp.ms ms
      rw [w205_29]
      simp only [w205, hlt, ms1, zz]
      refine s206 ms1 (MPm.nt mp nt) po hn8 (show c ≤ 14 by omega) hwi fun r dp dq hr => ?_
      rcases hr with ⟨rfl, s, hs, he⟩ | ⟨rfl, hr⟩
      · simp only [w205, mz, zz]
        refine k _ _ (Or.inr ⟨c, rfl, ?_, ⟨s, hs, he⟩, hno⟩) (mp.trans (PmH_mo h1 dp dq))
        rcases Nat.lt_or_ge n c with q | q
        · exact absurd he (hno n q s (PRc.cap hn8 (by omega) s hs))
        · exact q
      · simp only [w205, mz, zz, nI_1]
        refine ih (c + 1) _ (by omega) (by omega) (by omega) (mp.trans (PmH_mo h1 dp dq)) fun j hj s hs => ?_
        rcases Nat.lt_or_ge j c with q | q
        · exact hno j q s hs
        · have : j = c := by omega
          rw [this] at hs
          exact hr s hs
  have hne : ¬ nI n = 0 := nI_ne0 hn0 (by omega)
  have hle : nI n ≤ (8 : Int32) := nI_le (b := 8) hn8 (by decide)
  have m0 : MPm h (sI h 67 0 0) := MO.rf.sI67 0 rfl
  rw [we205]
  simp only [w205, ms, mz, hs_sI, e72z, nt.1, hne, hle, zz]
  exact lp 8 1 _ rfl (Nat.le_refl _) (by decide) m0 (fun j hj s hs => by
    have hj0 : j = 0 := by omega
    subst hj0
    exact PRc.z0 hn8 hw0 hwi s hs)
theorem s205f (ms : MS0 h) (h72 : hI h 72 0 = nI n) (hn : n ≤ 14) (hq : ¬ (0 < n ∧ n ≤ 8)) : WPM 205 [.ref 67] h Q ↔ Q (some (.int (-1))) (sI h 67 0 0) := by
  rw [we205]
  rcases Nat.eq_zero_or_pos n with z | z
  · have hz : nI n = 0 := by rw [z]; exact nI_0
    simp only [w205, ms, mz, hs_sI, e72z, h72, hz, zz]
  · have hne : ¬ nI n = 0 := nI_ne0 z (by omega)
    have hle : ¬ nI n ≤ (8 : Int32) := nI_ge (a := 8) (by omega) (by omega)
    simp only [w205, ms, mz, hs_sI, e72z, h72, hne, hle, zz]
end Pm2

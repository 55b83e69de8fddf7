/-! ===== the reference's acts ===== -/
section Ac
variable {h : AH} {n w wi b best : Nat} {P : Nat → Nat} {D : Nat → Option Nat} {qs : List Nat} {fa : Nat → Int32} {Q : Option Value → AH → Prop}
theorem mkI_0 : mkI 0 = -1 := rfl
theorem mkI_s (c : Nat) : mkI (c + 1) = nI c := rfl
theorem nI_mk (c : Nat) : nI c + (-1) = mkI c := by
  cases c with
  | zero => decide +kernel
  | succ c => exact pk_m1 c
/-- what the searches leave for what comes behind -/
def ABs (h : AH) (n w wi b : Nat) (P : Nat → Nat) (D : Nat → Option Nat) (qs : List Nat) (fa : Nat → Int32) (best : Nat) : Prop :=
  MS0 h ∧ MNt h n P wi ∧ PartsOK n P ∧ MWB h w b ∧ MAc h (actsOf n P w) ∧ wi < 2 ^ n ∧ SpI (actsOf n P w) (2 ^ n) b (isEndB w wi) D qs qs.length (some best) ∧ (∀ x, x < 16384 → fa x = frI (D x)) ∧ hI h 80 = fa ∧ best ≤ 16384
def rfR (n w wi b best : Nat) (P : Nat → Nat) (D : Nat → Option Nat) (rf : Nat → Int64) (x : Nat) : Prop := rf x = lN (rfv (actsOf n P w) (2 ^ n) b (isEndB w wi) D best x)
theorem sJ_setJ (h : AH) (a : Nat) (f : Nat → Int64) (k : Nat) (v : Int64) : sJ (setJ h a f) a k v = setJ h a (va_up f k v) := by
  refine ah_ext rfl rfl rfl ?_ rfl rfl rfl
  funext x j
  rw [hJ_sJ, hJ_setJ, hJ_setJ]
  by_cases q : x = a
  · subst q
    simp [va_up]
  · simp [q]
theorem lN_0 : lN 0 = 0 := rfl
theorem rfv_le {L : List Act} {N b : Nat} {e : Nat → Bool} {best s : Nat} : rfv L N b e D best s ≤ MR := by
  unfold rfv
  split <;> omega
theorem SpI.dq {L : List Act} {N b : Nat} {e : Nat → Bool} {i : Nat} {o : Option Nat} (si : SpI L N b e D qs i o) (hN : N ≤ 16384) {x : Nat} (hx : x ∈ qs) : D x = some (dv D x) ∧ dv D x ≤ 16384 := by
  cases hD : D x with
  | none => exact absurd hD ((si.1.2.1 x).mpr hx)
  | some k =>
    rw [dv_some hD]
    refine ⟨rfl, ?_⟩
    obtain ⟨j, hj⟩ := List.getElem?_of_mem hx
    have h1 := si.2.2.1 j x hj
    rw [dv_some hD] at h1
    obtain ⟨hl, -⟩ := List.getElem?_eq_some_iff.mp hj
    have := nodup_len N qs si.1.1 (fun y hy => (si.2.1 y hy).1)
    omega
theorem acc_in (ab : ABs h n w wi b P D qs fa best) {i s : Nat} (hs : s ∈ qs) (hlt : dv D s < best)
    {rf0 : Nat → Int64} (hrf : ∀ t, D t = some (dv D s + 1) → rfR n w wi b best P D rf0 t)
    (kk : ∀ rf x6 x7, (∀ x, x ≠ s → rf x = rf0 x) → rfR n w wi b best P D rf s → WP 184 42 [.ref 67, .int (nI w), .int (nI b), .int (nI best), .int (mkI i), .int (nI s), x6, x7] [] (setJ h 82 rf) Q) :
    ∀ d m rf x7, (actsOf n P w).length - m = d → m ≤ (actsOf n P w).length → (∀ x, x ≠ s → rf x = rf0 x) → rf s = lN (min MR (sm (rft (actsOf n P w) (2 ^ n) b (isEndB w wi) D best s) m)) → WP 184 91 [.ref 67, .int (nI w), .int (nI b), .int (nI best), .int (nI i), .int (nI s), .int (nI m), x7] [] (setJ h 82 rf) Q := by
  obtain ⟨ms, nt, po, wb, ac, hwi, si, hfa, h80, hb9⟩ := ab
  have hn := po.1
  have hN9 : 2 ^ n ≤ 16384 := p2_le (n := 14) hn
  obtain ⟨a1, a2, a3⟩ := ac
  have hsN := si.2.1 s hs
  have hr := hs_setJ h 82
  have e82 : ∀ f, hJ (setJ h 82 f) 82 = f := fun f => by rw [hJ_setJ, if_pos rfl]
  obtain ⟨hDs, hDs9⟩ := si.dq hN9 hs
  have c4 : (nI s).toNatClampNeg = s := nI_clamp (by omega)
  have i4 : inb (nI s) 16384 = true := inb_nI (by omega) (by decide)
  have hfs : fa s = nI (dv D s) := by rw [hfa s (by omega), hDs, fr_some]
  have hbl : ¬ nI best ≤ nI (dv D s) := nI_ge hlt (by omega)
  have hrec := si.rec hs hlt
  intro d
  induction d with
  | zero =>
    intro m rf x7 hd hm hx hv
    have hml : m = (actsOf n P w).length := by omega
    subst hml
    have hle : nI (actsOf n P w).length ≤ nI (actsOf n P w).length := nI_le (Nat.le_refl _) (by omega)
    rw [w184_91]
    simp only [w184_a, w184_b, w184_c, hr, ms, a1, hle, zz, nI_mk]
    refine kk rf _ _ hx ?_
    unfold rfR rfv
    rw [if_pos (by omega), hrec]
    exact hv
  | succ d ih =>
    intro m rf x7 hd hm hx hv
    have hml : m < (actsOf n P w).length := by omega
    have hle : ¬ nI (actsOf n P w).length ≤ nI m := nI_ge hml (by omega)
    obtain ⟨a, ha⟩ : ∃ a, (actsOf n P w)[m]? = some a := ⟨_, List.getElem?_eq_getElem hml⟩
    have ham : a ∈ actsOf n P w := List.mem_of_getElem? ha
    have c1 : (nI m).toNatClampNeg = m := nI_clamp (by omega)
    have i1 : inb (nI m) 112 = true := inb_nI (by omega) (by decide)
    have har : hI h 79 m = nI a.1 := a2 m a.1 (by rw [List.getElem?_map, ha]; rfl)
    have haft := fun (f : Nat → Int64) (Q : Option Value → AH → Prop) => s178a (h := setJ h 82 f) (Q := Q) ms nt po wb ham hsN.1 hsN.2
    have hsm : sm (rft (actsOf n P w) (2 ^ n) b (isEndB w wi) D best s) (m + 1) = sm (rft (actsOf n P w) (2 ^ n) b (isEndB w wi) D best s) m + rft (actsOf n P w) (2 ^ n) b (isEndB w wi) D best s m := rfl
    have hrt : rft (actsOf n P w) (2 ^ n) b (isEndB w wi) D best s m = match aft (2 ^ n) b a s with
      | some t => if D t = some (dv D s + 1) then cnt (actsOf n P w) (2 ^ n) b (isEndB w wi) (best - (dv D s + 1)) t else 0
      | none => 0 := by
      unfold rft aftL
      rw [ha]
      rfl
    rw [w184_91]
    cases haf : aft (2 ^ n) b a s with
    | none =>
      rw [haf] at hrt
      simp only [w184_a, w184_b, w184_c, w184_d, hr, ms, mz, a1, hle, h80, c4, i4, hfs, hbl, c1, i1, har, haft, haf, oI_none, zz, nI_1]
      refine ih (m + 1) rf _ (by omega) (by omega) hx ?_
      rw [hsm, hrt]
      exact hv
    | some t =>
      rw [haf] at hrt
      dsimp only at hrt
      have htN := aft_lt haf
      obtain ⟨kt, k1, k2, k3⟩ := si.nxt hs ham haf
      obtain ⟨hDt, hDt9⟩ := si.dq hN9 k3
      have c2 : (nI t).toNatClampNeg = t := nI_clamp (by omega)
      have i2 : inb (nI t) 16384 = true := inb_nI (by omega) (by decide)
      have hneg : ¬ nI t < 0 := nI_pos (by omega)
      have hft : fa t = nI (dv D t) := by rw [hfa t (by omega), hDt, fr_some]
      have heq : (nI (dv D t) = nI (dv D s + 1)) ↔ dv D t = dv D s + 1 := nI_eq (by omega) (by omega)
      by_cases q : dv D t = dv D s + 1
      · have hDt' : D t = some (dv D s + 1) := by rw [hDt, q]
        rw [if_pos hDt'] at hrt
        have hts : t ≠ s := fun z => by rw [z] at q; omega
        have hvt : rf t = lN (min MR (cnt (actsOf n P w) (2 ^ n) b (isEndB w wi) (best - (dv D s + 1)) t)) := by
          rw [hx t hts, hrf t hDt']
          unfold rfv
          rw [if_pos (by omega), q]
        have hA : min MR (sm (rft (actsOf n P w) (2 ^ n) b (isEndB w wi) D best s) m) ≤ MR := Nat.min_le_left _ _
        have hB : min MR (cnt (actsOf n P w) (2 ^ n) b (isEndB w wi) (best - (dv D s + 1)) t) ≤ MR := Nat.min_le_left _ _
        have hMR : MR = 1000000000000000 := rfl
        have hadd : rf s + rf t = lN (min MR (sm (rft (actsOf n P w) (2 ^ n) b (isEndB w wi) D best s) m) + min MR (cnt (actsOf n P w) (2 ^ n) b (isEndB w wi) (best - (dv D s + 1)) t)) := by rw [hv, hvt, lN_add]
        have hcmp := lg_cmp_le (lN (min MR (sm (rft (actsOf n P w) (2 ^ n) b (isEndB w wi) D best s) m) + min MR (cnt (actsOf n P w) (2 ^ n) b (isEndB w wi) (best - (dv D s + 1)) t))) (lN 1000000000000000)
        have hcmp2 := pk_lLE (a := min MR (sm (rft (actsOf n P w) (2 ^ n) b (isEndB w wi) D best s) m) + min MR (cnt (actsOf n P w) (2 ^ n) b (isEndB w wi) (best - (dv D s + 1)) t)) (b := 1000000000000000) (by omega) (by decide)
        have hmin := min_add (sm (rft (actsOf n P w) (2 ^ n) b (isEndB w wi) D best s) m) (cnt (actsOf n P w) (2 ^ n) b (isEndB w wi) (best - (dv D s + 1)) t)
        have hup : ∀ v x, x ≠ s → va_up rf s v x = rf0 x := fun v x hxs => by rw [up_at, if_neg hxs]; exact hx x hxs
        by_cases q2 : min MR (sm (rft (actsOf n P w) (2 ^ n) b (isEndB w wi) D best s) m) + min MR (cnt (actsOf n P w) (2 ^ n) b (isEndB w wi) (best - (dv D s + 1)) t) ≤ 1000000000000000
        · have hc := hcmp.mpr (hcmp2.mpr q2)
          simp only [w184_a, w184_b, w184_c, w184_d, hr, ms, mz, a1, hle, h80, c4, i4, c2, i2, hfs, hft, hbl, c1, i1, har, haft, haf, oI_some, hneg, nI_1, heq, q, e82, hadd, hc, sJ_setJ, zz]
          refine ih (m + 1) _ _ (by omega) (by omega) (hup _) ?_
          rw [up_at, if_pos rfl, hsm, hrt, ← hmin]
          exact congrArg lN (Nat.min_eq_right (show _ ≤ MR from q2)).symm
        · have hc : ¬ lg_cmp (lN (min MR (sm (rft (actsOf n P w) (2 ^ n) b (isEndB w wi) D best s) m) + min MR (cnt (actsOf n P w) (2 ^ n) b (isEndB w wi) (best - (dv D s + 1)) t))) (lN 1000000000000000) ≤ 0 := fun z => q2 (hcmp2.mp (hcmp.mp z))
          simp only [w184_a, w184_b, w184_c, w184_d, hr, ms, mz, a1, hle, h80, c4, i4, c2, i2, hfs, hft, hbl, c1, i1, har, haft, haf, oI_some, hneg, nI_1, heq, q, e82, hadd, hc, sJ_setJ, zz]
          refine ih (m + 1) _ _ (by omega) (by omega) (hup _) ?_
          rw [up_at, if_pos rfl, hsm, hrt, ← hmin, Nat.min_eq_left (by omega)]
          rfl
      · have hDt' : ¬ D t = some (dv D s + 1) := fun z => q (by rw [hDt] at z; exact Option.some.inj z)
        rw [if_neg hDt'] at hrt
        simp only [w184_a, w184_b, w184_c, w184_d, hr, ms, mz, a1, hle, h80, c4, i4, c2, i2, hfs, hft, hbl, c1, i1, har, haft, haf, oI_some, hneg, nI_1, heq, q, zz]
        refine ih (m + 1) rf _ (by omega) (by omega) hx ?_
        rw [hsm, hrt]
        exact hv
/-- over the queue, from its end -/
theorem acc_out (ab : ABs h n w wi b P D qs fa best) (h81 : RowI (hI h 81) qs)
    (k : ∀ rf x5 x6 x7, (∀ x, x ∈ qs → rfR n w wi b best P D rf x) → WP 184 212 [.ref 67, .int (nI w), .int (nI b), .int (nI best), .int (-1), x5, x6, x7] [] (setJ h 82 rf) Q) :
    ∀ c rf x5 x6 x7, c ≤ qs.length → (∀ j x, c ≤ j → qs[j]? = some x → rfR n w wi b best P D rf x) → WP 184 42 [.ref 67, .int (nI w), .int (nI b), .int (nI best), .int (mkI c), x5, x6, x7] [] (setJ h 82 rf) Q := by
  obtain ⟨ms, nt, po, wb, ac, hwi, si, hfa, h80, hb9⟩ := id ab
  have hn := po.1
  have hN9 : 2 ^ n ≤ 16384 := p2_le (n := 14) hn
  have hql := nodup_len (2 ^ n) qs si.1.1 (fun y hy => (si.2.1 y hy).1)
  have hr := hs_setJ h 82
  intro c
  induction c with
  | zero =>
    intro rf x5 x6 x7 hc hrf
    rw [w184_42]
    simp only [w184_a, mkI_0, mz, zz]
    refine k rf x5 x6 x7 fun x hx => ?_
    obtain ⟨j, hj⟩ := List.getElem?_of_mem hx
    exact hrf j x (Nat.zero_le _) hj
  | succ c ih =>
    intro rf x5 x6 x7 hc hrf
    have hcl : c < qs.length := by omega
    obtain ⟨s, hs⟩ : ∃ s, qs[c]? = some s := ⟨_, List.getElem?_eq_getElem hcl⟩
    have hsq := List.mem_of_getElem? hs
    have hsN := si.2.1 s hsq
    obtain ⟨hDs, hDs9⟩ := si.dq hN9 hsq
    have hqs := h81 c s hs
    have hneg : ¬ nI c < 0 := nI_pos (by omega)
    have c1 : (nI c).toNatClampNeg = c := nI_clamp (by omega)
    have i1 : inb (nI c) 16384 = true := inb_nI (by omega) (by decide)
    have c4 : (nI s).toNatClampNeg = s := nI_clamp (by omega)
    have i4 : inb (nI s) 16384 = true := inb_nI (by omega) (by decide)
    have hfs : fa s = nI (dv D s) := by rw [hfa s (by omega), hDs, fr_some]
    have heq : (nI (dv D s) = nI best) ↔ dv D s = best := nI_eq (by omega) (by omega)
    have hend := fun (f : Nat → Int64) (Q : Option Value → AH → Prop) => s179 (h := setJ h 82 f) (Q := Q) (s := s) ms wb.1 wb.2.2.1 nt.2.1 (by omega) (show wi < 65536 by omega)
    have a1 := ac.1
    have hlen := ac.2.2
    /- behind it only later ones -/
    have hlater : ∀ j x, c ≤ j → qs[j]? = some x → x = s ∨ c + 1 ≤ j := fun j x h1 h2 => by
      by_cases z : j = c
      · left
        rw [z, hs] at h2
        exact (Option.some.inj h2).symm
      · right
        omega
    have hoth : ∀ j x, c + 1 ≤ j → qs[j]? = some x → x ≠ s := fun j x h1 h2 z => by
      rw [z] at h2
      obtain ⟨l1, e1⟩ := List.getElem?_eq_some_iff.mp hs
      obtain ⟨l2, e2⟩ := List.getElem?_eq_some_iff.mp h2
      have := (List.getElem_inj si.1.1).mp (e1.trans e2.symm)
      omega
    have hdone : ∀ rf', (∀ x, x ≠ s → rf' x = rf x) → rfR n w wi b best P D rf' s → ∀ j x, c ≤ j → qs[j]? = some x → rfR n w wi b best P D rf' x := fun rf' h1 h2 j x hj hx => by
      rcases hlater j x hj hx with z | z
      · rw [z]
        exact h2
      · unfold rfR
        rw [h1 x (hoth j x z hx)]
        exact hrf j x z hx
    rw [w184_42]
    rcases Nat.lt_trichotomy (dv D s) best with q | q | q
    · have hne : ¬ dv D s = best := by omega
      simp only [w184_a, w184_b, mkI_s, hneg, hr, ms, c1, i1, c4, i4, hqs, h80, hfs, heq, hne, sJ_setJ, zz]
      have := acc_in (Q := Q) ab hsq q (i := c) (rf0 := va_up rf s 0) (fun t ht => ?_) (fun rf' x6' x7' g1 g2 => ?_) _ 0 (va_up rf s 0) x7 rfl (Nat.zero_le _) (fun _ _ => rfl) (by rw [up_at, if_pos rfl]; exact lN_0.symm)
      · rw [nI_0] at this
        exact this
      · have htq : t ∈ qs := (si.1.2.1 t).mp (by rw [ht]; exact Option.some_ne_none _)
        obtain ⟨j, hj⟩ := List.getElem?_of_mem htq
        have hcj : c + 1 ≤ j := by
          rcases Nat.lt_or_ge c j with z | z
          · exact z
          · have := si.1.mono_at z hj hs
            rw [dv_some ht] at this
            omega
        unfold rfR
        rw [up_at, if_neg (hoth j t hcj hj)]
        exact hrf j t hcj hj
      · refine ih rf' _ x6' x7' (by omega) (hdone rf' (fun x hx => ?_) g2)
        rw [g1 x hx, up_at, if_neg hx]
    · have hbl : nI best ≤ nI (dv D s) := nI_le (by omega) (by omega)
      have hval : ∀ v, v = (if isEndP w wi s then (1 : Int64) else 0) → rfR n w wi b best P D (va_up rf s v) s := fun v hv => by
        have e1 : rfv (actsOf n P w) (2 ^ n) b (isEndB w wi) D best s = min MR (if isEndB w wi s = true then 1 else 0) := by
          unfold rfv
          rw [if_pos (by omega), show best - dv D s = 0 by omega]
          rfl
        unfold rfR
        rw [up_at, if_pos rfl, hv, e1]
        by_cases z : isEndB w wi s = true
        · rw [if_pos z, if_pos z]
          rfl
        · rw [if_neg z, if_neg z]
          rfl
      by_cases q2 : isEndP w wi s
      · simp only [w184_a, w184_b, mkI_s, hneg, hr, ms, c1, i1, c4, i4, hqs, h80, hfs, heq, q, hend, if_pos q2, mz, sJ_setJ, zz]
        rw [w184_91]
        by_cases q3 : nI (actsOf n P w).length ≤ 0
        · simp only [w184_b, w184_c, w184_d, hr, ms, a1, q3, nI_mk, zz]
          exact ih _ _ _ _ (by omega) (hdone _ (fun x hx => by rw [up_at, if_neg hx]) (hval 1 (by rw [if_pos q2])))
        · rw [q] at hbl
          simp only [w184_b, w184_c, w184_d, hr, ms, a1, q3, c4, i4, h80, hfs, q, hbl, nI_mk, zz]
          exact ih _ _ _ _ (by omega) (hdone _ (fun x hx => by rw [up_at, if_neg hx]) (hval 1 (by rw [if_pos q2])))
      · simp only [w184_a, w184_b, mkI_s, hneg, hr, ms, c1, i1, c4, i4, hqs, h80, hfs, heq, q, hend, if_neg q2, mz, sJ_setJ, zz]
        rw [w184_91]
        by_cases q3 : nI (actsOf n P w).length ≤ 0
        · simp only [w184_b, w184_c, w184_d, hr, ms, a1, q3, nI_mk, zz]
          exact ih _ _ _ _ (by omega) (hdone _ (fun x hx => by rw [up_at, if_neg hx]) (hval 0 (by rw [if_neg q2])))
        · rw [q] at hbl
          simp only [w184_b, w184_c, w184_d, hr, ms, a1, q3, c4, i4, h80, hfs, q, hbl, nI_mk, zz]
          exact ih _ _ _ _ (by omega) (hdone _ (fun x hx => by rw [up_at, if_neg hx]) (hval 0 (by rw [if_neg q2])))
    · have hne : ¬ dv D s = best := by omega
      have hbl : nI best ≤ nI (dv D s) := nI_le (by omega) (by omega)
      have hval : rfR n w wi b best P D (va_up rf s 0) s := by
        unfold rfR rfv
        rw [up_at, if_pos rfl, if_neg (by omega)]
        rfl
      simp only [w184_a, w184_b, mkI_s, hneg, hr, ms, c1, i1, c4, i4, hqs, h80, hfs, heq, hne, sJ_setJ, zz]
      rw [w184_91]
      by_cases q3 : nI (actsOf n P w).length ≤ 0
      · simp only [w184_b, w184_c, w184_d, hr, ms, a1, q3, nI_mk, zz]
        exact ih _ _ _ _ (by omega) (hdone _ (fun x hx => by rw [up_at, if_neg hx]) hval)
      · simp only [w184_b, w184_c, w184_d, hr, ms, a1, q3, c4, i4, h80, hfs, hbl, nI_mk, zz]
        exact ih _ _ _ _ (by omega) (hdone _ (fun x hx => by rw [up_at, if_neg hx]) hval)
end Ac

/-! ===== the reference's spread: breadth first from the empty set ===== -/
def FARN : Nat := 1000000000
/-- a distance as the reference holds it -/
def frI : Option Nat → Int32
  | some k => nI k
  | none => nI 1000000000
def spE (L : List Act) (N b s t : Nat) : Prop := t ∈ L.filterMap (fun a => aft N b a s)
/-- the first END's distance -/
def spB (e : Nat → Bool) (D : Nat → Option Nat) (qs : List Nat) (o : Option Nat) : Prop := (o = none → ∀ x, x ∈ qs → e x = false) ∧ ∀ k, o = some k → (∃ x, x ∈ qs ∧ e x = true ∧ D x = some k) ∧ ∀ y, y ∈ qs → e y = true → k ≤ dv D y
def SpI (L : List Act) (N b : Nat) (e : Nat → Bool) (D : Nat → Option Nat) (qs : List Nat) (i : Nat) (o : Option Nat) : Prop := BD (fun x => x = 0) (spE L N b) D qs i ∧ (∀ x, x ∈ qs → x < N ∧ pc x ≤ b) ∧ (∀ j x, qs[j]? = some x → dv D x ≤ j) ∧ spB e D qs o
/-- while the acts of one set are looked at -/
def SpZ (N b v : Nat) (e : Nat → Bool) (D : Nat → Option Nat) (qs : List Nat) (o : Option Nat) : Prop := qs.Nodup ∧ (∀ x, D x ≠ none ↔ x ∈ qs) ∧ (∀ x, x ∈ qs → x < N ∧ pc x ≤ b) ∧ (∀ j x, qs[j]? = some x → dv D x ≤ j) ∧ (∀ x, x ∈ qs → dv D x ≤ v) ∧ v ≤ qs.length ∧ spB e D qs o
theorem SpZ.add {N b v t : Nat} {e : Nat → Bool} {D : Nat → Option Nat} {qs : List Nat} {o : Option Nat} (z : SpZ N b v e D qs o) (ht : t < N ∧ pc t ≤ b) (hD : D t = none) : SpZ N b v e (va_up D t (some v)) (qs ++ [t]) (if o = none ∧ e t = true then some v else o) := by
  obtain ⟨z1, z2, z3, z4, z5, z6, z7, z8⟩ := z
  have htq : t ∉ qs := fun q => (z2 t).mpr q hD
  have hdv : ∀ x, x ∈ qs → dv (va_up D t (some v)) x = dv D x := fun x hx => by
    unfold dv
    rw [up_at, if_neg (fun q => htq (by rw [← q]; exact hx))]
  have hdt : dv (va_up D t (some v)) t = v := by
    unfold dv
    rw [up_at, if_pos rfl]
    rfl
  have hmem : ∀ x, x ∈ qs ++ [t] → x ∈ qs ∨ x = t := fun x hx => by simpa using hx
  refine ⟨?_, fun x => ?_, fun x hx => ?_, fun j x hj => ?_, fun x hx => ?_, by simp; omega, ?_, ?_⟩
  · rw [List.nodup_append]
    refine ⟨z1, by simp, fun x hx y hy q => ?_⟩
    have hy' : y = t := by simpa using hy
    rw [hy'] at q
    exact htq (by rw [← q]; exact hx)
  · rw [up_at]
    by_cases q : x = t
    · subst q
      simp
    · rw [if_neg q, z2 x]
      simp [q]
  · rcases hmem x hx with q | rfl
    · exact z3 x q
    · exact ht
  · by_cases q : j < qs.length
    · rw [List.getElem?_append_left q] at hj
      rw [hdv x (List.mem_of_getElem? hj)]
      exact z4 j x hj
    · rw [List.getElem?_append_right (by omega)] at hj
      have hx := List.mem_of_getElem? hj
      have hx' : x = t := by simpa using hx
      subst hx'
      rw [hdt]
      omega
  · rcases hmem x hx with q | rfl
    · rw [hdv x q]; exact z5 x q
    · rw [hdt]; exact Nat.le_refl _
  · intro ho x hx
    split at ho
    · cases ho
    · next hn =>
      rcases hmem x hx with q | rfl
      · exact z7 ho x q
      · cases he : e x with
        | false => rfl
        | true => exact absurd ⟨ho, he⟩ hn
  · intro k hk
    split at hk
    · next hn =>
      cases hk
      refine ⟨⟨t, by simp, hn.2, by rw [up_at, if_pos rfl]⟩, fun y hy he => ?_⟩
      rcases hmem y hy with q | rfl
      · rw [z7 hn.1 y q] at he
        cases he
      · rw [hdt]; exact Nat.le_refl _
    · obtain ⟨⟨x, x1, x2, x3⟩, x4⟩ := z8 k hk
      refine ⟨⟨x, List.mem_append_left _ x1, x2, by rw [up_at, if_neg (fun q => htq (by rw [← q]; exact x1))]; exact x3⟩, fun y hy he => ?_⟩
      rcases hmem y hy with q | rfl
      · rw [hdv y q]; exact x4 y q he
      · rw [hdt]
        have := z5 x x1
        rw [dv_some x3] at this
        exact this
/-! the heap -/
def SpH (h : AH) (fa qu : Nat → Int32) (m : Nat) : AH := setI (setI (setI h 67 (va_up (hI h 67) 28 (nI m))) 80 fa) 81 qu
theorem SpH_r (h : AH) : ∀ fa qu m, hT (SpH h fa qu m) = hT h ∧ hL (SpH h fa qu m) = hL h ∧ hR (SpH h fa qu m) = hR h ∧ hI (SpH h fa qu m) 80 = fa ∧ hI (SpH h fa qu m) 81 = qu ∧ hI (SpH h fa qu m) 67 28 = nI m ∧ hI (SpH h fa qu m) 67 23 = hI h 67 23 ∧ hI (SpH h fa qu m) 79 = hI h 79 ∧ (∀ k v, sI (SpH h fa qu m) 80 k v = SpH h (va_up fa k v) qu m) ∧ (∀ k v, sI (SpH h fa qu m) 81 k v = SpH h fa (va_up qu k v) m) ∧ sI (SpH h fa qu m) 67 28 (nI (m + 1)) = SpH h fa qu (m + 1) := by
  intro fa qu m
  refine ⟨rfl, rfl, rfl, rfl, rfl, rfl, rfl, rfl, fun k v => ?_, fun k v => sI_setI _ _ _ _ _, ?_⟩
  · unfold SpH
    rw [sI_setI_o (by decide), sI_setI]
  · unfold SpH
    rw [sI_setI_o (by decide), sI_setI_o (by decide), sI_setI, up_up]
theorem SpH_mo (h : AH) (fa qu : Nat → Int32) (m : Nat) : MO (fun a => a = 80 ∨ a = 81) (fun j => j = 28) (fun _ => False) (fun _ => False) h (SpH h fa qu m) := by
  unfold SpH
  refine ((MO.rf.r67 fun j hj => ?_).rI fa (Or.inl rfl)).rI qu (Or.inr rfl)
  rw [up_at, if_neg hj]
def SpR (D : Nat → Option Nat) (qs : List Nat) (fa qu : Nat → Int32) : Prop := (∀ x, x < 16384 → fa x = frI (D x)) ∧ RowI qu qs
/-- the acts' row holds the acts -/
def MAc (h : AH) (L : List Act) : Prop := hI h 67 23 = nI L.length ∧ RowI (hI h 79) (L.map (fun a => a.1)) ∧ L.length ≤ 112
section Spr
variable {h : AH} {n w wi b : Nat} {P C : Nat → Nat} {Q : Option Value → AH → Prop}
theorem fr_none : frI none = nI 1000000000 := rfl
theorem fr_some (k : Nat) : frI (some k) = nI k := rfl
theorem sp_in (ms : MS0 h) (nt : MNt h n P wi) (po : PartsOK n P) (wb : MWB h w b) (ac : MAc h (actsOf n P w)) (hwi : wi < 2 ^ n) {s v i : Nat} (hs : s < 2 ^ n) (hsp : pc s ≤ b) (hi : i < 16384) (hv : v ≤ 16384) {D0 : Nat → Option Nat} {qs0 : List Nat} (hv0 : v = dv D0 s + 1) (hD0 : D0 s ≠ none)
    (k : ∀ D qs o fa qu x5, (D, qs) = ((actsOf n P w).filterMap (fun a => aft (2 ^ n) b a s)).foldl (look1 v) (D0, qs0) → SpZ (2 ^ n) b v (isEndB w wi) D qs o → SpR D qs fa qu → WP 180 58 [.ref 67, .int (oI o), .int (nI (i + 1)), .int (nI s), .int (nI (actsOf n P w).length), x5] [] (SpH h fa qu qs.length) Q) :
    ∀ d j D qs o fa qu x5, (actsOf n P w).length - j = d → j ≤ (actsOf n P w).length → (D, qs) = (((actsOf n P w).take j).filterMap (fun a => aft (2 ^ n) b a s)).foldl (look1 v) (D0, qs0) → SpZ (2 ^ n) b v (isEndB w wi) D qs o → dv D s = dv D0 s → SpR D qs fa qu → (∀ q, o = some q → q ≤ 16384) → WP 180 76 [.ref 67, .int (oI o), .int (nI i), .int (nI s), .int (nI j), x5] [] (SpH h fa qu qs.length) Q := by
  have hr := SpH_r h
  have hn := po.1
  have hN9 : 2 ^ n ≤ 16384 := p2_le (n := 14) hn
  obtain ⟨a1, a2, a3⟩ := ac
  intro d
  induction d with
  | zero =>
    intro j D qs o fa qu x5 hd hj hz sz _ sr _
    have hjl : j = (actsOf n P w).length := by omega
    subst hjl
    have hle : nI (actsOf n P w).length ≤ nI (actsOf n P w).length := nI_le (Nat.le_refl _) (by omega)
    rw [List.take_length] at hz
    rw [w180_76]
    simp only [w180_b, w180_c, hr, ms, a1, hle, zz, nI_1]
    exact k D qs o fa qu x5 hz sz sr
  | succ d ih =>
    intro j D qs o fa qu x5 hd hj hz sz hds sr ho9
    have hjl : j < (actsOf n P w).length := by omega
    have hle : ¬ nI (actsOf n P w).length ≤ nI j := nI_ge hjl (by omega)
    obtain ⟨a, ha⟩ : ∃ a, (actsOf n P w)[j]? = some a := ⟨_, List.getElem?_eq_getElem hjl⟩
    have ham : a ∈ actsOf n P w := List.mem_of_getElem? ha
    have c1 : (nI j).toNatClampNeg = j := nI_clamp (by omega)
    have i1 : inb (nI j) 112 = true := inb_nI (by omega) (by decide)
    have har : hI h 79 j = nI a.1 := a2 j a.1 (by rw [List.getElem?_map, ha]; rfl)
    have htk : ((actsOf n P w).take (j + 1)).filterMap (fun a => aft (2 ^ n) b a s) = ((actsOf n P w).take j).filterMap (fun a => aft (2 ^ n) b a s) ++ (aft (2 ^ n) b a s).toList := by
      rw [List.take_add_one, ha, List.filterMap_append]
      congr 1
    have haft := fun (fa qu : Nat → Int32) (m : Nat) (Q : Option Value → AH → Prop) => s178a (h := SpH h fa qu m) (Q := Q) ms nt po wb ham hs hsp
    rw [w180_76]
    cases haf : aft (2 ^ n) b a s with
    | none =>
      rw [haf, Option.toList_none, List.append_nil] at htk
      simp only [w180_b, w180_c, hr, ms, mz, a1, hle, c1, i1, har, haft, haf, oI_none, zz, nI_1]
      exact ih (j + 1) D qs o fa qu _ (by omega) (by omega) (by rw [htk]; exact hz) sz hds sr ho9
    | some t =>
      have htN := aft_lt haf
      have c2 : (nI t).toNatClampNeg = t := nI_clamp (by omega)
      have i2 : inb (nI t) 16384 = true := inb_nI (by omega) (by decide)
      have hneg : ¬ nI t < 0 := nI_pos (by omega)
      have hft := sr.1 t (by omega)
      rw [haf, Option.toList_some] at htk
      cases hDt : D t with
      | some q =>
        have hq9 : q ≤ 16384 := by
          have h1 : t ∈ qs := (sz.2.1 t).mp (by rw [hDt]; exact Option.some_ne_none _)
          have h2 := sz.2.2.2.2.1 t h1
          rw [dv_some hDt] at h2
          omega
        have hfar : ¬ nI 1000000000 ≤ nI q := nI_ge (by omega) (by decide)
        rw [hDt, fr_some] at hft
        simp only [w180_b, w180_c, hr, ms, mz, a1, hle, c1, i1, c2, i2, har, haft, haf, oI_some, hneg, hft, hfar, zz, nI_1]
        refine ih (j + 1) D qs o fa qu _ (by omega) (by omega) ?_ sz hds sr ho9
        rw [htk, List.foldl_append, ← hz]
        show (D, qs) = look1 v (D, qs) t
        unfold look1
        rw [if_neg (show ¬ D t = none by rw [hDt]; exact Option.some_ne_none _)]
      | none =>
        have hfar : nI 1000000000 ≤ nI 1000000000 := nI_le (Nat.le_refl _) (by decide)
        rw [hDt, fr_none] at hft
        have htq : t ∉ qs := fun q => (sz.2.1 t).mpr q hDt
        have hlen : qs.length < 16384 := by
          have h1 := nodup_len (2 ^ n) (t :: qs) (List.nodup_cons.mpr ⟨htq, sz.1⟩) (fun y hy => by
            rcases List.mem_cons.mp hy with rfl | q
            · exact htN.1
            · exact (sz.2.2.1 y q).1)
          rw [List.length_cons] at h1
          omega
        have c3 : (nI qs.length).toNatClampNeg = qs.length := nI_clamp (by omega)
        have i3 : inb (nI qs.length) 16384 = true := inb_nI hlen (by decide)
        have c4 : (nI s).toNatClampNeg = s := nI_clamp (by omega)
        have i4 : inb (nI s) 16384 = true := inb_nI (by omega) (by decide)
        have hsk : ∃ q, D s = some q := by
          have hst : D s ≠ none := by
            intro q
            have h1 : dv D s = 0 := by unfold dv; rw [q]; rfl
            obtain ⟨nw, g1, g2, g3, g4, g5⟩ := look_adds v (((actsOf n P w).take j).filterMap (fun a => aft (2 ^ n) b a s)) (D0, qs0)
            have g6 := g4 s
            rw [← hz] at g6
            dsimp only at g6
            rw [q] at g6
            split at g6
            · cases g6
            · exact hD0 g6.symm
          cases hq : D s with
          | none => exact absurd hq hst
          | some q => exact ⟨q, rfl⟩
        obtain ⟨ds, hds'⟩ := hsk
        have hfs : fa s + 1 = nI v := by
          rw [sr.1 s (by omega), hds', fr_some, nI_1]
          congr 1
          rw [hv0, ← hds, dv_some hds']
        have hz' : (va_up D t (some v), qs ++ [t]) = (((actsOf n P w).take (j + 1)).filterMap (fun a => aft (2 ^ n) b a s)).foldl (look1 v) (D0, qs0) := by
          rw [htk, List.foldl_append, ← hz]
          show _ = look1 v (D, qs) t
          unfold look1
          rw [if_pos hDt]
        have sz' := sz.add htN hDt
        have hds2 : dv (va_up D t (some v)) s = dv D0 s := by
          rw [← hds]
          unfold dv
          rw [up_at, if_neg (fun q => by rw [q, hDt] at hds'; cases hds')]
        have sr' : SpR (va_up D t (some v)) (qs ++ [t]) (va_up fa t (nI v)) (va_up qu qs.length (nI t)) := by
          refine ⟨fun x hx => ?_, sr.2.add t⟩
          rw [up_at, up_at]
          by_cases q : x = t
          · rw [if_pos q, if_pos q]
            rfl
          · rw [if_neg q, if_neg q]
            exact sr.1 x hx
        have hl1 : (qs ++ [t]).length = qs.length + 1 := by simp
        have hend := fun (fa qu : Nat → Int32) (m : Nat) (Q : Option Value → AH → Prop) => s179 (h := SpH h fa qu m) (Q := Q) (s := t) ms wb.1 wb.2.2.1 nt.2.1 (by omega) (show wi < 65536 by omega)
        cases o with
        | some q =>
          have hq0 : (0 : Int32) ≤ nI q := nI_pos' (by have := ho9 q rfl; omega)
          rw [if_neg (fun z => by cases z.1)] at sz'
          simp only [w180_b, w180_c, hr, ms, mz, a1, hle, c1, i1, c2, i2, c3, i3, c4, i4, har, haft, haf, oI_some, hneg, hft, hfar, hfs, hq0, zz, nI_1]
          have := ih (j + 1) _ _ (some q) _ _ (.int (nI t)) (by omega) (by omega) hz' sz' hds2 sr' ho9
          rw [hl1] at this
          exact this
        | none =>
          by_cases q : isEndP w wi t
          · rw [if_pos ⟨rfl, q⟩] at sz'
            simp only [w180_b, w180_c, hr, ms, mz, a1, hle, c1, i1, c2, i2, c3, i3, c4, i4, har, haft, haf, oI_some, oI_none, hneg, hft, hfar, hfs, hend, if_pos q, va_up_self, zz, nI_1]
            have := ih (j + 1) _ _ (some v) _ _ (.int (nI t)) (by omega) (by omega) hz' sz' hds2 sr' (fun z hz => by cases hz; exact hv)
            rw [hl1] at this
            exact this
          · rw [if_neg (fun z => q z.2)] at sz'
            simp only [w180_b, w180_c, hr, ms, mz, a1, hle, c1, i1, c2, i2, c3, i3, c4, i4, har, haft, haf, oI_some, oI_none, hneg, hft, hfar, hfs, hend, if_neg q, zz, nI_1]
            have := ih (j + 1) _ _ none _ _ (.int (nI t)) (by omega) (by omega) hz' sz' hds2 sr' ho9
            rw [hl1] at this
            exact this
theorem SpI.z {L : List Act} {N b : Nat} {e : Nat → Bool} {D : Nat → Option Nat} {qs : List Nat} {i s : Nat} {o : Option Nat} (x : SpI L N b e D qs i o) (hs : qs[i]? = some s) : SpZ N b (dv D s + 1) e D qs o := by
  obtain ⟨x1, x2, x3, x4⟩ := x
  obtain ⟨hl, -⟩ := List.getElem?_eq_some_iff.mp hs
  refine ⟨x1.1, x1.2.1, x2, x3, fun y hy => x1.2.2.2.2.2.1 y hy s hs, ?_, x4⟩
  have := x3 i s hs
  omega
theorem sp_out (ms : MS0 h) (nt : MNt h n P wi) (po : PartsOK n P) (wb : MWB h w b) (ac : MAc h (actsOf n P w)) (hwi : wi < 2 ^ n)
    (k : ∀ D qs o fa qu, SpI (actsOf n P w) (2 ^ n) b (isEndB w wi) D qs qs.length o → SpR D qs fa qu → Q (some (.int (oI o))) (SpH h fa qu qs.length)) :
    ∀ d i D qs o fa qu x3 x4 x5, 2 ^ n - i = d → i ≤ qs.length → SpI (actsOf n P w) (2 ^ n) b (isEndB w wi) D qs i o → SpR D qs fa qu → WP 180 58 [.ref 67, .int (oI o), .int (nI i), x3, x4, x5] [] (SpH h fa qu qs.length) Q := by
  have hr := SpH_r h
  have hn := po.1
  have hN9 : 2 ^ n ≤ 16384 := p2_le (n := 14) hn
  intro d
  induction d with
  | zero =>
    intro i D qs o fa qu x3 x4 x5 hd hi si sr
    have hl := nodup_len (2 ^ n) qs si.1.1 (fun y hy => (si.2.1 y hy).1)
    have hiq : i = qs.length := by omega
    subst hiq
    have hle : nI qs.length ≤ nI qs.length := nI_le (Nat.le_refl _) (by omega)
    rw [w180_58]
    simp only [w180_a, w180_b, w180_c, hr, ms, hle, zz]
    exact k D qs o fa qu si sr
  | succ d ih =>
    intro i D qs o fa qu x3 x4 x5 hd hi si sr
    have hl := nodup_len (2 ^ n) qs si.1.1 (fun y hy => (si.2.1 y hy).1)
    by_cases hiq : i = qs.length
    · subst hiq
      have hle : nI qs.length ≤ nI qs.length := nI_le (Nat.le_refl _) (by omega)
      rw [w180_58]
      simp only [w180_a, w180_b, w180_c, hr, ms, hle, zz]
      exact k D qs o fa qu si sr
    · have hil : i < qs.length := by omega
      have hle : ¬ nI qs.length ≤ nI i := nI_ge hil (by omega)
      obtain ⟨s, hs⟩ : ∃ s, qs[i]? = some s := ⟨_, List.getElem?_eq_getElem hil⟩
      have hsq := List.mem_of_getElem? hs
      have hsN := si.2.1 s hsq
      have c1 : (nI i).toNatClampNeg = i := nI_clamp (by omega)
      have i1 : inb (nI i) 16384 = true := inb_nI (by omega) (by decide)
      have hqs := sr.2 i s hs
      have hdi := si.2.2.1 i s hs
      rw [w180_58]
      simp only [w180_a, w180_b, w180_c, hr, ms, hle, c1, i1, hqs, zz]
      have ho9 : ∀ q, o = some q → q ≤ 16384 := fun q hq => by
        obtain ⟨⟨x, x1, x2, x3⟩, -⟩ := si.2.2.2.2 q hq
        have h1 := si.1.2.2.2.2.2.1 x x1 s hs
        rw [dv_some x3] at h1
        omega
      have := sp_in (Q := Q) ms nt po wb ac hwi (s := s) (v := dv D s + 1) (i := i) hsN.1 hsN.2 (by omega) (by omega) (D0 := D) (qs0 := qs) rfl ((si.1.2.1 s).mpr hsq) ?_ _ 0 D qs o fa qu x5 rfl (Nat.zero_le _) rfl (si.z hs) rfl sr ho9
      · rw [nI_0] at this
        exact this
      · intro D' qs' o' fa' qu' x5' hz sz' sr'
        have hb := si.1.look hs (T := (actsOf n P w).filterMap (fun a => aft (2 ^ n) b a s)) (fun t => Iff.rfl)
        rw [← hz] at hb
        refine ih (i + 1) D' qs' o' fa' qu' _ _ _ (by omega) ?_ ⟨hb, sz'.2.2.1, sz'.2.2.2.1, sz'.2.2.2.2.2.2⟩ sr'
        obtain ⟨nw, g1, -⟩ := look_adds (dv D s + 1) ((actsOf n P w).filterMap (fun a => aft (2 ^ n) b a s)) (D, qs)
        rw [← hz] at g1
        dsimp only at g1
        rw [g1, List.length_append]
        omega
theorem s180 (ms : MS0 h) (nt : MNt h n P wi) (po : PartsOK n P) (wb : MWB h w b) (ac : MAc h (actsOf n P w)) (hwi : wi < 2 ^ n)
    (k : ∀ D qs o fa qu, SpI (actsOf n P w) (2 ^ n) b (isEndB w wi) D qs qs.length o → SpR D qs fa qu → Q (some (.int (oI o))) (SpH h fa qu qs.length)) : WPM 180 [.ref 67] h Q := by
  have hn := po.1
  have hN9 : 2 ^ n ≤ 16384 := p2_le (n := 14) hn
  have hN0 : 0 < 2 ^ n := Nat.pow_pos (by decide)
  have hs80 := hs_setI h 80
  have fill : ∀ d x f, 16384 - x = d → x ≤ 16384 → (∀ y, y < x → f y = nI 1000000000) → WP 180 2 [.ref 67, .int (nI x), .retAddr 0, .retAddr 0, .retAddr 0, .retAddr 0] [] (setI h 80 f) Q := by
    intro d
    induction d with
    | zero =>
      intro x f hd hx hf
      have hx6 : x = 16384 := by omega
      subst hx6
      have hle : (16384 : Int32) ≤ nI 16384 := by decide +kernel
      have e0 : sI (sI (setI h 80 (va_up f 0 0)) 81 0 0) 67 28 1 = SpH h (va_up f 0 0) (va_up (hI h 81) 0 0) 1 := by
        unfold SpH
        rw [sI_as (setI h 80 (va_up f 0 0)) 81 0 0, sI_setI_o (by decide), sI_setI_o (by decide), sI_as h 67 28 1]
        rfl
      have i0 : inb 0 16384 = true := by decide +kernel
      have h179 := fun Q => s179 (h := SpH h (va_up f 0 0) (va_up (hI h 81) 0 0) 1) (Q := Q) (s := 0) (w := w) (wi := wi) ms wb.1 wb.2.2.1 nt.2.1 (by decide) (by omega)
      rw [nI_0] at h179
      have hr := SpH_r h (va_up f 0 0) (va_up (hI h 81) 0 0) 1
      have hs81 := hs_setI h 80 (va_up f 0 0)
      have hso := hs_sI (setI h 80 (va_up f 0 0)) 81 0 0
      have s0 : SpR (fun x => if x = 0 then some 0 else none) [0] (va_up f 0 0) (va_up (hI h 81) 0 0) := by
        refine ⟨fun x hx => ?_, fun j v hj => ?_⟩
        · rw [up_at]
          dsimp only
          by_cases q : x = 0
          · rw [if_pos q, if_pos q]
            exact nI_0.symm
          · rw [if_neg q, if_neg q]
            exact hf x hx
        · cases j with
          | zero =>
            have hv : v = 0 := by simpa using hj.symm
            rw [hv]
            exact nI_0.symm
          | succ j => simp at hj
      have si0 : ∀ o, spB (isEndB w wi) (fun x => if x = 0 then some 0 else none) [0] o → SpI (actsOf n P w) (2 ^ n) b (isEndB w wi) (fun x => if x = 0 then some 0 else none) [0] 0 o := by
        intro o ho
        have hone : ∀ x : Nat, x ∈ [0] → x = 0 := fun x hx => by simpa using hx
        refine ⟨⟨by simp, fun x => ?_, fun x hx => by rw [hx]; rfl, fun x k hk => ?_, by simp, fun y hy x hx => ?_, fun j x t hj => absurd hj (Nat.not_lt_zero _)⟩, fun x hx => ?_, fun j x hj => ?_, ho⟩
        · by_cases q : x = 0
          · simp [q]
          · simp [q]
        · dsimp only at hk
          by_cases q : x = 0
          · rw [if_pos q] at hk
            cases hk
            exact q
          · rw [if_neg q] at hk
            cases hk
        · rw [hone y hy]
          exact Nat.zero_le _
        · rw [hone x hx, pc_0]
          exact ⟨hN0, Nat.zero_le _⟩
        · rw [hone x (List.mem_of_getElem? hj)]
          exact Nat.zero_le _
      have go := sp_out (Q := Q) ms nt po wb ac hwi k (2 ^ n) 0 (fun x => if x = 0 then some 0 else none) [0]
      rw [w180_2]
      by_cases q : isEndP w wi 0
      · simp only [w180_a, w180_b, hle, hs80, hs81, hso, ms, mz, i0, sI_setI, e0, hr, h179, if_pos q, zz]
        have := go (some 0) (va_up f 0 0) (va_up (hI h 81) 0 0) (.retAddr 0) (.retAddr 0) (.retAddr 0) rfl (Nat.zero_le _) (si0 _ ⟨fun z => (by cases z), fun z hz => ?_⟩) s0
        · rw [oI_some, nI_0] at this
          exact this
        · cases hz
          exact ⟨⟨0, by simp, q, rfl⟩, fun y _ _ => Nat.zero_le _⟩
      · simp only [w180_a, w180_b, hle, hs80, hs81, hso, ms, mz, i0, sI_setI, e0, hr, h179, if_neg q, zz]
        have := go none (va_up f 0 0) (va_up (hI h 81) 0 0) (.retAddr 0) (.retAddr 0) (.retAddr 0) rfl (Nat.zero_le _) (si0 _ ⟨fun _ x hx => ?_, fun z hz => by cases hz⟩) s0
        · rw [oI_none, nI_0] at this
          exact this
        · have hx0 : x = 0 := by simpa using hx
          rw [hx0]
          simpa using q
    | succ d ih =>
      intro x f hd hx hf
      have hx6 : x < 16384 := by omega
      have hle : ¬ (16384 : Int32) ≤ nI x := nI_ge (b := 16384) hx6 (by decide)
      have c1 : (nI x).toNatClampNeg = x := nI_clamp (by omega)
      have i1 : inb (nI x) 16384 = true := inb_nI (by omega) (by decide)
      rw [w180_2]
      simp only [w180_a, hle, hs80, ms, c1, i1, sI_setI, zz, nI_1]
      refine ih (x + 1) _ (by omega) (by omega) (fun y hy => ?_)
      rw [up_at]
      by_cases q : y = x
      · rw [if_pos q]
      · rw [if_neg q]
        exact hf y (by omega)
  rw [we180]
  simp only [w180_a]
  have := fill 16384 0 (hI h 80) rfl (by decide) (fun y hy => absurd hy (Nat.not_lt_zero _))
  rw [setI_id, nI_0] at this
  exact this
end Spr

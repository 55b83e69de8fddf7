/-! ===== THE MACHINE FOLLOWS THE ABSTRACT ONE: how the two states stand to each other ===== -/
/-- class numbers and slots; int[], byte[], boolean[], long[]; the first new address; the script: address, length, numbers -/
abbrev GG : Type := va_G × (ClassId × ClassId × ClassId × ClassId) × Nat × Nat × Nat × (Nat → Int32)
def gD (g : GG) : va_G := g.1
def gI (g : GG) : ClassId := g.2.1.1
def gB (g : GG) : ClassId := g.2.1.2.1
def gZ (g : GG) : ClassId := g.2.1.2.2.1
def gJ (g : GG) : ClassId := g.2.1.2.2.2
def gO (g : GG) : Nat := g.2.2.1
def gb (g : GG) : Nat := g.2.2.2.1
def gn (g : GG) : Nat := g.2.2.2.2.1
def gx (g : GG) : Nat → Int32 := g.2.2.2.2.2
def ro (g : GG) (a : Nat) : Nat := if a = 1 then gb g else gO g + (a - 2)
def tr (g : GG) (v : Value) : Value := match v with
  | .ref a => if a = 0 then .null else .ref (ro g a)
  | v => v
def trs (g : GG) (st : List Value) : List Value := st.map (tr g)
theorem tr_ref {g : GG} {a : Nat} (h : a ≠ 0) : tr g (.ref a) = .ref (ro g a) := by simp [tr, h]
theorem tr_cat (g : GG) (v : Value) : (tr g v).category = v.category := by
  cases v <;> try rfl
  simp only [tr]
  split <;> rfl
theorem trs_cat (g : GG) (st : List Value) : ((trs g st).map fun v => v.category) = st.map fun v => v.category := by
  simp only [trs, List.map_map]
  apply List.map_congr_left
  intro v _
  exact tr_cat g v
theorem ro_inj {g : GG} {a b : Nat} (ha : 2 ≤ a) (hb : 2 ≤ b) (h : ro g a = ro g b) : a = b := by
  unfold ro at h
  rw [if_neg (by omega), if_neg (by omega)] at h
  omega
theorem ro_ge {g : GG} {a : Nat} (ha : 2 ≤ a) : gO g ≤ ro g a := by
  unfold ro
  rw [if_neg (by omega)]
  omega
theorem ro_eq {g : GG} {a : Nat} (ha : 2 ≤ a) : ro g a = gO g + (a - 2) := by
  unfold ro
  rw [if_neg (by omega)]
def fk (ci k : Nat) : Nat := match vwCl[ci]? with
  | some q => kdD (q.2.1 k).2.2.1
  | none => 0
def fval (g : GG) (h : AH) (a ci k : Nat) : Value := if fk ci k = 1 then .long (hJ h a k) else if fk ci k = 2 then tr g (.ref (hR h a k)) else .int (hI h a k)
def Cel (g : GG) (h : AH) (a : Nat) (H : Heap) : Prop :=
  (∀ (ci : Nat) (q : vw_C), vwCl[ci]? = some q → hT h a = ci + 1 → t_OB (ro g a) ((gD g).1 ci) q.2.2 ((gD g).2 ci) H (fval g h a ci)) ∧
  (hT h a = 100 → H[ro g a]? = some (arrV (gI g) (hL h a) (fun j => .int (hI h a j)))) ∧
  (hT h a = 101 → H[ro g a]? = some (arrV (gB g) (hL h a) (fun j => .int (hI h a j)))) ∧
  (hT h a = 102 → H[ro g a]? = some (arrV (gZ g) (hL h a) (fun j => .int (hI h a j)))) ∧
  (hT h a = 103 → H[ro g a]? = some (arrV (gJ g) (hL h a) (fun j => .long (hJ h a j))))
def Rl (g : GG) (h : AH) (H : Heap) : Prop :=
  H.size + 2 = gO g + hN h ∧ 2 ≤ hN h ∧ (∀ a, 2 ≤ a → a < hN h → Cel g h a H) ∧ (∀ a, hN h ≤ a → hT h a = 0) ∧ hT h 0 = 0 ∧ hT h 1 = 110 ∧ hL h 1 = gn g ∧ hI h 1 = gx g ∧ ∀ a, 2 ≤ a → hT h a ≠ 110
def tys4 (g : GG) : List (ClassId × FieldType) := [(gI g, .int), (gB g, .byte), (gZ g, .boolean), (gJ g, .long)]
def gA (g : GG) : Nat → Prop := fun q => gO g ≤ q
def Rk (g : GG) (U : State) : Prop := va_K (gD g) vwCl (tys4 g) U ∧ (∀ w ∈ NW, va_Nw w U) ∧ va_X (gb g) (gn g) (gx g) U U.heap ∧ gb g < gO g ∧ gO g ≤ U.heap.size
theorem NW_warm {w : Cond} (hw : w ∈ NW) {s U : State} (hW : s.WarmedH U.vm) (h : va_Nw w s) : va_Nw w U := by
  have hn := (List.mem_filter.mp hw).2
  cases w with
  | methodLinkNest a i x h9 => exact va_Nw.warmM hW h
  | _ => cases hn
theorem Rk.moved {g : GG} {s U : State} {H : Heap} {locs : List Loc} (h : Rk g s) (hS : va_S (gA g) s.heap H locs) (hU : U.heap = H) (hW : s.WarmedH U.vm) : Rk g U := by
  obtain ⟨h1, h2, h3, h4, h5⟩ := h
  refine ⟨va_K.moved hW.alike h1, fun w hw => NW_warm hw hW (h2 w hw), ?_, h4, by rw [hU]; exact Nat.le_trans h5 hS.1⟩
  refine va_X.moved hW.alike (h3.kept ?_)
  rw [hU]
  exact hS.2.1 _ (Nat.lt_of_lt_of_le h4 h5) (Nat.not_le.mpr h4)
theorem Rl.live {g : GG} {h : AH} {H : Heap} (rl : Rl g h H) {a : Nat} (h0 : hT h a ≠ 0) (h1 : hT h a ≠ 110) : 2 ≤ a ∧ a < hN h := by
  obtain ⟨-, -, -, q3, q4, q5, -, -, -⟩ := rl
  refine ⟨?_, ?_⟩
  · rcases Nat.lt_or_ge a 2 with q | q
    · rcases (show a = 0 ∨ a = 1 by omega) with rfl | rfl
      · exact absurd q4 h0
      · exact absurd q5 h1
    · exact q
  · rcases Nat.lt_or_ge a (hN h) with q | q
    · exact q
    · exact absurd (q3 a q) h0
theorem Rl.lt {g : GG} {h : AH} {H : Heap} (rl : Rl g h H) {a : Nat} (h0 : 2 ≤ a) (h1 : a < hN h) : ro g a < H.size := by
  rw [ro_eq h0]
  have := rl.1
  omega
theorem Cel.cong {g : GG} {h h1 : AH} {x : Nat} {H H1 : Heap} (hc : Cel g h x H) (eT : hT h1 x = hT h x) (eL : hL h1 x = hL h x) (eI : hI h1 x = hI h x) (eJ : hJ h1 x = hJ h x) (eR : hR h1 x = hR h x) (hq : H1[ro g x]? = H[ro g x]?) : Cel g h1 x H1 := by
  obtain ⟨c0, c1, c2, c3, c4⟩ := hc
  refine ⟨fun ci q hv ht => ?_, fun ht => ?_, fun ht => ?_, fun ht => ?_, fun ht => ?_⟩
  · rw [eT] at ht
    have h9 := (c0 ci q hv ht).kept hq
    have e : fval g h1 x ci = fval g h x ci := by
      funext k
      simp only [fval, eI, eJ, eR]
    rw [e]
    exact h9
  · rw [eT] at ht; rw [hq, eL, eI]; exact c1 ht
  · rw [eT] at ht; rw [hq, eL, eI]; exact c2 ht
  · rw [eT] at ht; rw [hq, eL, eI]; exact c3 ht
  · rw [eT] at ht; rw [hq, eL, eJ]; exact c4 ht
theorem Rl.upd {g : GG} {h h1 : AH} {H H1 : Heap} {a : Nat} (rl : Rl g h H) (h2 : 2 ≤ a) (e0 : hN h1 = hN h) (eT : hT h1 = hT h) (eL : hL h1 = hL h) (eI : ∀ x, x ≠ a → hI h1 x = hI h x) (eJ : ∀ x, x ≠ a → hJ h1 x = hJ h x) (eR : ∀ x, x ≠ a → hR h1 x = hR h x)
    (z : H1.size = H.size) (oq : ∀ q, q ≠ ro g a → H1[q]? = H[q]?) (hc : Cel g h1 a H1) : Rl g h1 H1 := by
  obtain ⟨q1, q2, q3, q4, q5, q6, q7, q8, q9⟩ := rl
  refine ⟨by rw [z, e0]; exact q1, by rw [e0]; exact q2, fun x hx hx2 => ?_, fun x hx => by rw [eT]; exact q4 x (by rw [← e0]; exact hx), by rw [eT]; exact q5, by rw [eT]; exact q6, by rw [eL]; exact q7, by rw [eI 1 (by omega)]; exact q8, fun x hx => by rw [eT]; exact q9 x hx⟩
  by_cases hxa : x = a
  · subst hxa; exact hc
  · rw [e0] at hx2
    exact (q3 x hx hx2).cong (by rw [eT]) (by rw [eL]) (eI x hxa) (eJ x hxa) (eR x hxa) (oq _ (fun e => hxa (ro_inj hx h2 e)))
theorem Rl.new {g : GG} {h : AH} {H H1 : Heap} {t n sl : Nat} (ht : t ≠ 110) (rl : Rl g h H) (z : H1.size = H.size + 1) (oq : ∀ q, q < H.size → H1[q]? = H[q]?) (hc : Cel g (nw h t n sl) (hN h) H1) : Rl g (nw h t n sl) H1 := by
  have hR0 := rl
  obtain ⟨q1, q2, q3, q4, q5, q6, q7, q8, q9⟩ := rl
  have e0 : hN (nw h t n sl) = hN h + 1 := rfl
  have eT : ∀ x, x ≠ hN h → hT (nw h t n sl) x = hT h x := fun x hx => va_up_ne _ _ hx
  have eL : ∀ x, x ≠ hN h → hL (nw h t n sl) x = hL h x := fun x hx => va_up_ne _ _ hx
  have eI : ∀ x, x ≠ hN h → hI (nw h t n sl) x = hI h x := fun x hx => va_up_ne _ _ hx
  have eJ : ∀ x, x ≠ hN h → hJ (nw h t n sl) x = hJ h x := fun x hx => va_up_ne _ _ hx
  have eR : ∀ x, x ≠ hN h → hR (nw h t n sl) x = hR h x := fun x hx => va_up_ne _ _ hx
  refine ⟨by rw [z, e0]; omega, by rw [e0]; omega, fun x hx hx2 => ?_, fun x hx => ?_, by rw [eT 0 (by omega)]; exact q5, by rw [eT 1 (by omega)]; exact q6, by rw [eL 1 (by omega)]; exact q7, by rw [eI 1 (by omega)]; exact q8, fun x hx => ?_⟩
  · by_cases hxa : x = hN h
    · subst hxa; exact hc
    · rw [e0] at hx2
      have hl : x < hN h := by omega
      exact (q3 x hx hl).cong (eT x hxa) (eL x hxa) (eI x hxa) (eJ x hxa) (eR x hxa) (oq _ (hR0.lt hx hl))
  · rw [e0] at hx
    rw [eT x (by omega)]
    exact q4 x (by omega)
  · by_cases hxa : x = hN h
    · rw [hxa]
      show va_up (hT h) (hN h) t (hN h) ≠ 110
      rw [va_up_self]
      exact ht
    · rw [eT x hxa]; exact q9 x hx
/-! locals -/
def LH (g : GG) (LS : Array Slot) (nL : Nat) (ls : List Value) : Prop := LS.size = nL ∧ lv_wf LS ∧ ls.length = nL ∧ ∀ (i : Nat) (v : Value), ls[i]? = some v → (∀ q, v ≠ .retAddr q) → LS[i]? = some (.val (tr g v))
def asc1 (g : GG) (ls : List Value) (j : Nat) : Option (Nat × Value) := match ls[j]? with
  | some (.retAddr _) => none
  | some v => some (j, tr g v)
  | none => none
def asc (g : GG) (ls : List Value) : List (Nat × Value) := (List.range ls.length).filterMap (asc1 g ls)
theorem asc1_of {g : GG} {ls : List Value} {j : Nat} {v : Value} (h : ls[j]? = some v) (hv : ∀ q, v ≠ .retAddr q) : asc1 g ls j = some (j, tr g v) := by
  unfold asc1
  rw [h]
  cases v <;> first | rfl | exact absurd rfl (hv _)
theorem asc1_to {g : GG} {ls : List Value} {j : Nat} {q : Nat × Value} (h : asc1 g ls j = some q) : ∃ v, ls[j]? = some v ∧ (∀ q, v ≠ .retAddr q) ∧ q = (j, tr g v) := by
  unfold asc1 at h
  cases hv : ls[j]? with
  | none => rw [hv] at h; cases h
  | some v =>
    rw [hv] at h
    cases v <;> first | (cases h; done) | exact ⟨_, rfl, (fun _ z => by cases z), (Option.some.inj h).symm⟩
theorem asc_in {g : GG} {ls : List Value} {j : Nat} {v : Value} (h : ls[j]? = some v) (hv : ∀ q, v ≠ .retAddr q) : (j, tr g v) ∈ asc g ls :=
  List.mem_filterMap.mpr ⟨j, List.mem_range.mpr (List.getElem?_eq_some_iff.mp h).1, asc1_of h hv⟩
theorem LH.has {g : GG} {LS : Array Slot} {nL : Nat} {ls : List Value} (h : LH g LS nL ls) : lv_has LS nL (asc g ls) := by
  refine ⟨h.1, h.2.1, fun q hq => ?_⟩
  obtain ⟨j, -, hj⟩ := List.mem_filterMap.mp hq
  obtain ⟨v, h1, h2, rfl⟩ := asc1_to hj
  exact h.2.2.2 j v h1 h2
theorem cat2_of {v : Value} (h : cat2 v = false) : ¬ v.category = 2 := by
  cases v <;> simp_all [cat2, Value.category]
theorem LH_1 {g : GG} {LS LS' : Array Slot} {nL i : Nat} {ls ls' : List Value} {v : Value} (h : LH g LS nL ls) (hs : sto ls i v = some ls') (hv : lv_has LS' nL ((i, tr g v) :: (asc g ls).filter (fun q => !(q.1 == i) && !(q.1 + 1 == i && q.2.category == 2)))) : LH g LS' nL ls' := by
  unfold sto at hs
  split at hs
  · next hc =>
    cases hs
    refine ⟨hv.1, hv.2.1, by rw [List.length_set]; exact h.2.2.1, fun j w hj hw => ?_⟩
    by_cases hji : j = i
    · subst hji
      rw [List.getElem?_set_self hc.1] at hj
      cases hj
      exact hv.2.2 _ List.mem_cons_self
    · rw [List.getElem?_set_ne (Ne.symm hji)] at hj
      refine hv.2.2 (j, tr g w) (List.mem_cons_of_mem _ (List.mem_filter.mpr ⟨asc_in hj hw, ?_⟩))
      have h1 : (j == i) = false := by simpa using hji
      have h2 : (j + 1 == i && (tr g w).category == 2) = false := by
        rcases hc.2 with q | q
        · subst q; simp
        · by_cases hj1 : j + 1 = i
          · subst hj1
            have : ls.getD (j + 1 - 1) .null = w := by simp [List.getD, hj]
            rw [this] at q
            have := cat2_of q
            rw [tr_cat]
            simp [this]
          · simp [hj1]
      simp only [h1, h2]
      rfl
  · cases hs
theorem LH_2 {g : GG} {LS LS' : Array Slot} {nL i : Nat} {ls ls' : List Value} {v : Value} (h : LH g LS nL ls) (hs : sto2 ls i v = some ls') (hv : lv_has LS' nL ((i, tr g v) :: (asc g ls).filter (fun q => !(q.1 == i) && (!(q.1 == i + 1) && !(q.1 + 1 == i && q.2.category == 2))))) : LH g LS' nL ls' := by
  unfold sto2 at hs
  split at hs
  · next hc =>
    cases hs
    refine ⟨hv.1, hv.2.1, by rw [List.length_set, List.length_set]; exact h.2.2.1, fun j w hj hw => ?_⟩
    by_cases hji2 : j = i + 1
    · subst hji2
      rw [List.getElem?_set_self (by rw [List.length_set]; exact hc.1)] at hj
      cases hj
      exact absurd rfl (hw _)
    · rw [List.getElem?_set_ne (Ne.symm hji2)] at hj
      by_cases hji : j = i
      · subst hji
        rw [List.getElem?_set_self (by omega)] at hj
        cases hj
        exact hv.2.2 _ List.mem_cons_self
      · rw [List.getElem?_set_ne (Ne.symm hji)] at hj
        refine hv.2.2 (j, tr g w) (List.mem_cons_of_mem _ (List.mem_filter.mpr ⟨asc_in hj hw, ?_⟩))
        have h1 : (j == i) = false := by simpa using hji
        have h3 : (j == i + 1) = false := by simpa using hji2
        have h2 : (j + 1 == i && (tr g w).category == 2) = false := by
          rcases hc.2 with q | q
          · subst q; simp
          · by_cases hj1 : j + 1 = i
            · subst hj1
              have : ls.getD (j + 1 - 1) .null = w := by simp [List.getD, hj]
              rw [this] at q
              have := cat2_of q
              rw [tr_cat]
              simp [this]
            · simp [hj1]
        simp only [h1, h2, h3]
        rfl
  · cases hs
theorem sto_lt {ls ls' : List Value} {i : Nat} {v : Value} (h : sto ls i v = some ls') : i < ls.length := by
  unfold sto at h
  split at h
  · next q => exact q.1
  · cases h
theorem sto2_lt {ls ls' : List Value} {i : Nat} {v : Value} (h : sto2 ls i v = some ls') : i + 1 < ls.length := by
  unfold sto2 at h
  split at h
  · next q => exact q.1
  · cases h

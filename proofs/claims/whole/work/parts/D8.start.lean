/-! ===== THE START, and the whole claim's walk. Made by wip/whole/genD8.py ===== -/
def FLs : List Cond := flatC (Jvm.Cond.and given_1 narrow_1)
def txT (q : TXt) : Term := .string q.1 q.2.1
def txC (q : TXt) : List Cond := Cond.exactly (txT q) "java/lang/String" :: Cond.eq (.field (txT q) "java/lang/String" "coder" "B") (.int 0) :: Cond.arrayOf (.field (txT q) "java/lang/String" "value" "[B") .byte :: Cond.eq (.length (.field (txT q) "java/lang/String" "value" "[B")) (.int (Int32.ofNat q.2.2.2.length)) :: (List.range q.2.2.2.length).map (fun j => Cond.eq (.elem (.field (txT q) "java/lang/String" "value" "[B") (.int (Int32.ofNat j))) (.int (q.2.2.2.getD j 0)))
theorem txC_in : (txL.all fun q => (txC q).all fun w => decide (w ∈ FLs)) = true := by decide +kernel
theorem txL_in : (txL.all fun q => decide (Cond.stringRef q.1 q.2.1 q.2.2.1 ∈ lw_tbl) && decide (q.2.2.2.length < 1000)) = true := by decide +kernel
theorem txM_in : (txM.all fun q => decide (Cond.stringRef RX11 q.1 q.2 ∈ lw_tbl) && decide (Cond.exactly (.string RX11 q.1) "java/lang/String" ∈ FLs)) = true := by decide +kernel
theorem xDl_in : (xDl.all fun y => decide (Cond.declares y ∈ lw_tbl)) = true := by decide +kernel
theorem exT_in : Cond.laysStatic "java/lang/String" "COMPACT_STRINGS" "Z" ∈ lw_tbl ∧ Cond.initialized "java/lang/String" ∈ lw_tbl ∧ Cond.laysStatic "jdk/internal/util/Preconditions" "SIOOBE_FORMATTER" "Ljava/util/function/BiFunction;" ∈ lw_tbl ∧ Cond.initialized "jdk/internal/util/Preconditions" ∈ lw_tbl ∧ Cond.laysStatic Bundle.tN "UNASSIGNED_STACK" Bundle.steD ∈ lw_tbl ∧ Cond.initialized Bundle.tN ∈ lw_tbl ∧ Cond.laysStatic Bundle.tN "SUPPRESSED_SENTINEL" Bundle.listD ∈ lw_tbl ∧ Cond.castable NSE NSE ∈ lw_tbl := by decide +kernel
theorem exF_in : Cond.eq (.static "java/lang/String" "COMPACT_STRINGS" "Z") (.int 1) ∈ FLs ∧ Cond.isRef (.static "jdk/internal/util/Preconditions" "SIOOBE_FORMATTER" "Ljava/util/function/BiFunction;") ∈ FLs ∧ Cond.isRef (.static Bundle.tN "UNASSIGNED_STACK" Bundle.steD) ∈ FLs ∧ Cond.isRef (.static Bundle.tN "SUPPRESSED_SENTINEL" Bundle.listD) ∈ FLs := by decide +kernel
theorem Ex_of {g : GG} {s : State} {args : Array Value} (hO : gO g = s.heap.size) (hts : ∀ w ∈ lw_tbl, w.before args s = true) (hgv : (Jvm.Cond.and given_1 narrow_1).before args s = true) : Ex g s := by
  have hfl : ∀ w ∈ FLs, w.before args s = true := flat_of_before _ hgv
  have hA : ∀ a : Nat, a < s.heap.size → ¬ gA g a := fun a ha q => by
    unfold gA at q
    rw [hO] at q
    exact absurd ha (Nat.not_lt.mpr q)
  refine ⟨fun q hq => ?_, fun q hq => ?_, ?_, ?_, ?_, ?_, fun y hy => ?_, ?_⟩
  · have h1 : ∀ w ∈ txC q, w.before args s = true := fun w hw => hfl w (of_decide_eq_true (List.all_eq_true.mp (List.all_eq_true.mp txC_in q hq) w hw))
    have h2 := List.all_eq_true.mp txL_in q hq
    simp only [Bool.and_eq_true, decide_eq_true_eq] at h2
    have h3 : ∀ j, j < q.2.2.2.length → (Cond.eq (.elem (.field (txT q) "java/lang/String" "value" "[B") (.int (Int32.ofNat j))) (.int (q.2.2.2.getD j 0))).before args s = true := fun j hj => h1 _ (by
      unfold txC
      exact List.mem_cons_of_mem _ (List.mem_cons_of_mem _ (List.mem_cons_of_mem _ (List.mem_cons_of_mem _ (List.mem_map.mpr ⟨j, List.mem_range.mpr hj, rfl⟩)))))
    obtain ⟨adK, adV, hS, he⟩ := vk_Sof (args := args) (s := s) (N := 1) (tm := fun _ => txT q) (len := [q.2.2.2.length]) (byt := [q.2.2.2]) (A := gA g)
      (fun i hi => by obtain rfl : i = 0 := by omega
                      show q.2.2.2.length < 2 ^ 31
                      have := h2.2
                      omega)
      (fun i hi => h1 _ (by unfold txC; exact List.mem_cons_self))
      (fun i hi => h1 _ (by unfold txC; exact List.mem_cons_of_mem _ List.mem_cons_self))
      (fun i hi => h1 _ (by unfold txC; exact List.mem_cons_of_mem _ (List.mem_cons_of_mem _ List.mem_cons_self)))
      (fun i hi => by obtain rfl : i = 0 := by omega
                      exact h1 _ (by unfold txC; exact List.mem_cons_of_mem _ (List.mem_cons_of_mem _ (List.mem_cons_of_mem _ List.mem_cons_self))))
      (fun i hi j hj => by obtain rfl : i = 0 := by omega
                           exact h3 j hj)
      (fun i j hi hj hij => absurd (show i = j by omega) hij) hA
    exact ⟨adK 0, adV 0, vk_R.of (hts _ h2.1) (he 0 (by omega)), hS.1 0 (by omega)⟩
  · have h2 := List.all_eq_true.mp txM_in q hq
    simp only [Bool.and_eq_true, decide_eq_true_eq] at h2
    obtain ⟨a, c, cA, kA, q1, -⟩ := Cond.exactly_spec (args := args) (first := s) (o := none) (s := s) (idx := []) (t := .string RX11 q.1) (cls := "java/lang/String") (hfl _ h2.2)
    exact ⟨a, vk_R.of (hts _ h2.1) q1⟩
  · exact va_Zof (hts _ exT_in.1) (hts _ exT_in.2.1) (va_eqt (hfl _ exF_in.1)) hA
  · exact va_Zqof (hts _ exT_in.2.2.1) (hts _ exT_in.2.2.2.1) (hfl _ exF_in.2.1) hA
  · exact vx_Zqof (hts _ exT_in.2.2.2.2.1) (hts _ exT_in.2.2.2.2.2.1) (hfl _ exF_in.2.2.1) hA
  · exact vx_Zqof (hts _ exT_in.2.2.2.2.2.2.1) (hts _ exT_in.2.2.2.2.2.1) (hfl _ exF_in.2.2.2) hA
  · exact va_Nw.of rfl (hts _ (of_decide_eq_true (List.all_eq_true.mp xDl_in y hy)))
  · exact va_Nw.of rfl (hts _ exT_in.2.2.2.2.2.2.2)
/-- the claim's walk, out of a run of the abstract machine -/
theorem whole_run {p : Program} {e : Env} {s : State} {m : MethodId} {below : List Frame} {meth : Method} {c : Code} (l : Launch) (hlT : l.stackTraces = false) {b L : Nat} {xs : Nat → Int32} (C0 : lw_At p s m meth c b L xs)
    (hrun : ∃ n h', run n lawC 0 (lent [.ref 1] 7) [] (h00 L xs) = some (some (.int 1), h') ∧ hN h' ≤ 601026 ∧ hS h' ≤ 7293034) :
    W p l e room_1 s m #[Value.ref b] below meth c s.heap [] 0 0 (lw_Z below #[Value.ref b] s) (entryFrame m ([Value.ref b] : List Value).toArray 7) := by
  obtain ⟨hx, hb, hr, hml, hown, hts, hX, hbl, hlocks, hgv⟩ := C0
  obtain ⟨n, h', hrun, hN9, hS9⟩ := hrun
  have htb : ∀ w ∈ TB, w.before #[Value.ref b] s = true := fun w hw => hts w (List.mem_filter.mp hw).1
  have hcls : ∀ ci : Nat, ∃ (cC : ClassId) (iS : Nat → Nat), ∀ q, vwCl[ci]? = some q → u_Kn s q.1 q.2.1 q.2.2 cC iS := by
    intro ci
    cases hq : vwCl[ci]? with
    | none => exact ⟨default, fun _ => 0, fun q h => by cases h⟩
    | some q =>
      obtain ⟨ty, hin, -⟩ := cls_ok hq
      obtain ⟨cC, iS, hk⟩ := u_known (C := q.1) (T := q.2.1) (N := q.2.2) htb hin (htb _ (cls_inst ci q hq))
      exact ⟨cC, iS, fun q' h => by cases h; exact hk⟩
  obtain ⟨dC, hdC⟩ := Classical.axiomOfChoice hcls
  obtain ⟨dI, hdI⟩ := Classical.axiomOfChoice hdC
  obtain ⟨cI, aI, rI⟩ := arr_of (htb _ arr_TB.1) (by simp)
  obtain ⟨cB, aB, rB⟩ := arr_of (htb _ arr_TB.2.1) (by simp)
  obtain ⟨cZ, aZ, rZ⟩ := arr_of (htb _ arr_TB.2.2.1) (by simp)
  obtain ⟨cJ, aJ, rJ⟩ := arr_of (htb _ arr_TB.2.2.2) (by simp)
  obtain ⟨g, hg⟩ : ∃ g : GG, g = ((dC, dI), (cI, cB, cZ, cJ), s.heap.size, b, L, xs) := ⟨_, rfl⟩
  have hRk : Rk g s := by
    subst hg
    refine ⟨⟨fun ci q hq => hdI ci q hq, fun k q hq => ?_⟩, fun w hw => ?_, hX, hbl, Nat.le_refl _⟩
    · match k, hq with
      | 0, hq => cases hq; exact ⟨aI, rI⟩
      | 1, hq => cases hq; exact ⟨aB, rB⟩
      | 2, hq => cases hq; exact ⟨aZ, rZ⟩
      | 3, hq => cases hq; exact ⟨aJ, rJ⟩
      | k + 4, hq => simp [tys4] at hq
    · have h1 := List.mem_filter.mp hw
      cases w with
      | methodLinkNest _ _ _ _ => exact va_Nw.of rfl (hts _ h1.1)
      | _ => cases h1.2
  have hRl : Rl g (h00 L xs) s.heap := by
    subst hg
    refine ⟨rfl, Nat.le_refl 2, fun a h1 h2 => ?_, fun a ha => ?_, rfl, rfl, rfl, rfl, fun a ha => ?_⟩
    · have h2 : a < 2 := h2
      omega
    · have ha : 2 ≤ a := ha
      show (if a = 1 then 110 else 0) = 0
      rw [if_neg (by omega)]
    · show (if a = 1 then 110 else 0) ≠ 110
      rw [if_neg (by omega)]
      decide
  have hO : gO g = s.heap.size := by rw [hg]; rfl
  have hb1 : ro g 1 = b := by rw [hg]; rfl
  have hEx : Ex g s := Ex_of hO hts hgv
  have hCx : Cyy g p room_1 s m #[Value.ref b] c cL_law 7 RL 10 226 := ⟨⟨hx, hb, hml, hown, htb⟩, ⟨hRk, hEx⟩, by decide, by decide⟩
  have hsim := simLaw g l hlT n lawC 0 _ [] _ _ _ rfl hrun
  have e1 : ([Value.ref b] : List Value) = trs g [.ref 1] := by
    show _ = [tr g (.ref 1)]
    rw [tr_ref (by decide), hb1]
  have e2 : entryFrame m ([Value.ref b] : List Value).toArray 7 = F0 m 0 ((lg_sl (trs g [.ref 1]) ++ List.replicate (7 - (lg_sl (trs g [.ref 1])).length) Slot.unset).toArray) [] := by
    rw [← lg_entry_eq, ← e1]
  rw [e2]
  have h2 : hN (h00 L xs) = 2 := rfl
  have h3 : hS (h00 L xs) = 0 := rfl
  refine hsim p e room_1 s m #[Value.ref b] below meth c s.heap [] 0 0 _ _ _ law_cm hCx (fun q => absurd q (by decide)) (by rw [show gA g = fun q => s.heap.size ≤ q by unfold gA; rw [hO]]; exact va_S.rf) (LH_entry (by decide)) hRl ?_ ?_ ?_
  · rw [h2]
    show 0 + (hN h' - 2) ≤ 601024
    omega
  · rw [h3]
    show 0 + (hS h' - 0) ≤ 7293034
    omega
  · intro H1 locs1 pc1 LS1 i info st1 hc hret hRl1 vS1
    have hck := ct_ok hc law_cm
    simp only [chkE, Bool.and_eq_true, decide_eq_true_eq] at hck
    refine W.widen (k := 601024) (n := 7293034) (by rw [h2]; omega) (by rw [h3]; omega) ?_
    refine va_forget (fun q hq => by have := vS1.2.2 q hq; unfold gA at this; rw [hO] at this; exact this) ?_
    unfold retv at hret
    split at hret
    · split at hret <;> cases hret
    · split at hret
      · next hi =>
        obtain ⟨rfl, -⟩ := hi
        cases hret
        exact lw_ret hx hb hr hlocks hck.1
      · cases hret
    · split at hret <;> cases hret
    · split at hret <;> cases hret
    · cases hret
theorem whole_start {p : Program} {e : Env} {s : State} {m : MethodId} {below : List Frame} {meth : Method} {c : Code} (l : Launch) (hflags : l.flags = flags0) {b L : Nat} {xs : Nat → Int32} (hL : L ≤ 3072) (C0 : lw_At p s m meth c b L xs) : W p l e room_1 s m #[Value.ref b] below meth c s.heap [] 0 0 (lw_Z below #[Value.ref b] s) (entryFrame m ([Value.ref b] : List Value).toArray 7) := by
  have hlT : l.stackTraces = false := by
    unfold Launch.stackTraces
    rw [hflags]
    decide +kernel
  exact whole_run l hlT C0 (law_run hL)

/-! ===== THE LAW'S ENTRY: the claim out of a run of the abstract machine ===== -/
def R_law : String := "FewBowlsLaw"
def lw_P (b : Addr) (xs : List Int32) (args : Array Value) (s : State) : Prop := args = #[.ref b] ∧ s.IntsAt b xs ∧ xs.length ≤ 3072 ∧ (Jvm.Cond.and given_1 narrow_1).before args s = true
def lw_Q (_ : Array Value) (s : State) (o : Outcome) (t : State) : Prop := o = .returned (some (.int 1)) ∧ Framed s o t [] 601024 7293034
def lw_Z (below : List Frame) (a : Array Value) (s : State) : State → Prop := fun t => ∃ o, t.status = .running ∧ Ended t below o ∧ lw_Q a s o t
/-- the law's own end, with 1 on the stack, nothing written that was there before, its room as the claim has it -/
theorem lw_ret {p : Program} {l : Launch} {e : Env} {s : State} {m : MethodId} {below : List Frame} {meth : Method} {c : Code} {b : Nat} (hx : p.tables.exec = Jvm.exec) (hb : c.code = code) (hr : meth.sig.returnType = ret) (hlocks : meth.locks = false) {pc : Nat} {H : Heap} {ls : Array Slot} (hdg : decode code pc = .ok (.ireturn, 1)) : W p l e room_1 s m #[Value.ref b] below meth c H [] 601024 7293034 (lw_Z below #[Value.ref b] s) (F0 m pc ls [.int 1]) := by
  intro T hT X
  obtain ⟨fs, hret, hrun, hended, hW, hframe⟩ := X.leave (v := some (.int 1)) (hlocks := hlocks) (fun h => by rw [hr] at h; cases h)
  have hmeth' : T.vm.method? m = some meth := X.method'
  refine ⟨T.setFrames fs, ?_, .returned (some (.int 1)), hrun, hended, rfl, ⟨_, rfl⟩, hW, hframe⟩
  jvm_step X.here [X.here.top, hx, hb, hdg, hmeth', hr, ret, narrow_b1]
  (try refine ⟨rfl, ?_⟩); (try refine ⟨rfl, ?_⟩)
  first | (intro acts; rw [hret _ acts rfl rfl rfl]) | rw [hret _ _ rfl rfl rfl]
  exact Steps.refl _
/-- what holds at the law's entry: the machine, the code, the tables' words (any of lw_tbl by 'hts w (by decide +kernel)'), the script of L ints xs at the cell b, what the Statement gives of the start (any of its parts by flat_of_before) -/
def lw_At (p : Program) (s : State) (m : MethodId) (meth : Method) (c : Code) (b L : Nat) (xs : Nat → Int32) : Prop :=
  p.tables.exec = Jvm.exec ∧ c.code = code ∧ meth.sig.returnType = ret ∧ c.maxLocals = 7 ∧ s.vm.findClass R_law = some m.cls ∧ (∀ w ∈ lw_tbl, w.before #[Value.ref b] s = true) ∧ va_X b L xs s s.heap ∧ b < s.heap.size ∧ meth.locks = false ∧ (Jvm.Cond.and given_1 narrow_1).before #[Value.ref b] s = true
/-- the abstract heap at the start: the script alone -/
def h00 (L : Nat) (xs : Nat → Int32) : AH := (fun a => if a = 1 then 110 else 0, fun a => if a = 1 then L else 0, fun a => if a = 1 then xs else fun _ => 0, fun _ _ => 0, fun _ _ => 0, 2, 0)
theorem cls_inst : ∀ (ci : Nat) (q : vw_C), vwCl[ci]? = some q → Cond.instantiable q.1 q.2.2 ∈ TB := by
  intro ci q h
  match ci, h with
  | 0, h => cases h; exact TBw_in (pl := 346) (by decide +kernel)
  | 1, h => cases h; exact TBw_in (pl := 491) (by decide +kernel)
  | 2, h => cases h; exact TBw_in (pl := 326) (by decide +kernel)
  | 3, h => cases h; exact TBw_in (pl := 127) (by decide +kernel)
  | 4, h => cases h; exact TBw_in (pl := 519) (by decide +kernel)
  | 5, h => cases h; exact TBw_in (pl := 380) (by decide +kernel)
  | 6, h => cases h; exact TBw_in (pl := 423) (by decide +kernel)
  | 7, h => cases h; exact TBw_in (pl := 211) (by decide +kernel)
  | 8, h => cases h; exact TBw_in (pl := 454) (by decide +kernel)
  | 9, h => cases h; exact TBw_in (pl := 553) (by decide +kernel)
  | 10, h => cases h; exact TBw_in (pl := 217) (by decide +kernel)
  | 11, h => cases h; exact TBw_in (pl := 119) (by decide +kernel)
  | 12, h => cases h; exact TBw_in (pl := 1265) (by decide +kernel)
  | n + 13, h => simp [vwCl] at h
theorem arr_TB : Cond.arrayClass .int ∈ TB ∧ Cond.arrayClass .byte ∈ TB ∧ Cond.arrayClass .boolean ∈ TB ∧ Cond.arrayClass .long ∈ TB := ⟨TBw_in (pl := 209) (by decide +kernel), TBw_in (pl := 208) (by decide +kernel), TBw_in (pl := 1445) (by decide +kernel), TBw_in (pl := 344) (by decide +kernel)⟩
theorem arr_of {s : State} {args : Array Value} {ty : FieldType} (h : (Cond.arrayClass ty).before args s = true) (hty : ty = .int ∨ ty = .byte ∨ ty = .boolean ∨ ty = .long) : ∃ cA : ClassId, ArrOfT s cA ty ∧ va_RA s cA ty := by
  obtain ⟨c, k, comp, h1, h2, h3⟩ := Cond.arrayClass_spec h
  refine ⟨c, fun n z => ⟨fun k h => (by cases h), k, h2, comp, h3⟩, ?_⟩
  rcases hty with rfl | rfl | rfl | rfl <;> exact h1
theorem law_cm : mi lawC = some (yL_law, cL_law, 7, some .boolean, 10, 226, 0, 94) := cm219
/-- the claim's walk, out of a run of the abstract machine -/
theorem whole_of {p : Program} {e : Env} {s : State} {m : MethodId} {below : List Frame} {meth : Method} {c : Code} (l : Launch) {b L : Nat} {xs : Nat → Int32} (C0 : lw_At p s m meth c b L xs)
    (hrun : ∃ n h', run n lawC 0 (lent [.ref 1] 7) [] (h00 L xs) = some (some (.int 1), h') ∧ hN h' ≤ 601026 ∧ hS h' ≤ 7293034)
    (hP : ∀ g : GG, gO g = s.heap.size → Rk g s → PrimOK g l) (hM : ∀ g : GG, gO g = s.heap.size → Rk g s → MacOK g l) :
    W p l e room_1 s m #[Value.ref b] below meth c s.heap [] 0 0 (lw_Z below #[Value.ref b] s) (entryFrame m ([Value.ref b] : List Value).toArray 7) := by
  obtain ⟨hx, hb, hr, hml, hown, hts, hX, hbl, hlocks, hgv⟩ := C0
  obtain ⟨n, h', hrun, hN9, hS9⟩ := hrun
  have htb : ∀ w ∈ TB, w.before #[Value.ref b] s = true := fun w hw => hts w (List.mem_filter.mp hw).1
  have hcls : ∀ ci : Nat, ∃ (cC : ClassId) (iS : Nat → Nat), ∀ q, vwCl[ci]? = some q → u_Kn s q.1 q.2.1 q.2.2 cC iS := by
    intro ci
    cases hq : vwCl[ci]? with
    | none => exact ⟨default, fun _ => 0, fun q h => by cases h⟩
    | some q =>
      obtain ⟨ty, hin, -⟩ := cls_ok hq
      obtain ⟨cC, iS, hk⟩ := u_known (C := q.1) (T := q.2.1) (N := q.2.2) htb hin (htb _ (cls_inst ci q hq))
      exact ⟨cC, iS, fun q' h => by cases h; exact hk⟩
  obtain ⟨dC, hdC⟩ := Classical.axiomOfChoice hcls
  obtain ⟨dI, hdI⟩ := Classical.axiomOfChoice hdC
  obtain ⟨cI, aI, rI⟩ := arr_of (htb _ arr_TB.1) (by simp)
  obtain ⟨cB, aB, rB⟩ := arr_of (htb _ arr_TB.2.1) (by simp)
  obtain ⟨cZ, aZ, rZ⟩ := arr_of (htb _ arr_TB.2.2.1) (by simp)
  obtain ⟨cJ, aJ, rJ⟩ := arr_of (htb _ arr_TB.2.2.2) (by simp)
  obtain ⟨g, hg⟩ : ∃ g : GG, g = ((dC, dI), (cI, cB, cZ, cJ), s.heap.size, b, L, xs) := ⟨_, rfl⟩
  have hRk : Rk g s := by
    subst hg
    refine ⟨⟨fun ci q hq => hdI ci q hq, fun k q hq => ?_⟩, fun w hw => ?_, hX, hbl, Nat.le_refl _⟩
    · match k, hq with
      | 0, hq => cases hq; exact ⟨aI, rI⟩
      | 1, hq => cases hq; exact ⟨aB, rB⟩
      | 2, hq => cases hq; exact ⟨aZ, rZ⟩
      | 3, hq => cases hq; exact ⟨aJ, rJ⟩
      | k + 4, hq => simp [tys4] at hq
    · have h1 := List.mem_filter.mp hw
      cases w with
      | methodLinkNest _ _ _ _ => exact va_Nw.of rfl (hts _ h1.1)
      | _ => cases h1.2
  have hRl : Rl g (h00 L xs) s.heap := by
    subst hg
    refine ⟨rfl, Nat.le_refl 2, fun a h1 h2 => ?_, fun a ha => ?_, rfl, rfl, rfl, rfl, fun a ha => ?_⟩
    · have h2 : a < 2 := h2
      omega
    · have ha : 2 ≤ a := ha
      show (if a = 1 then 110 else 0) = 0
      rw [if_neg (by omega)]
    · show (if a = 1 then 110 else 0) ≠ 110
      rw [if_neg (by omega)]
      decide
  have hO : gO g = s.heap.size := by rw [hg]; rfl
  have hb1 : ro g 1 = b := by rw [hg]; rfl
  have hCx : Cx g lawC p room_1 s m #[Value.ref b] meth c (yL_law, cL_law, 7, some .boolean, 10, 226, 0, 94) := ⟨law_cm, hx, hb, hml, hown, htb, hRk, by decide, by decide, fun q => absurd q (by decide)⟩
  have hsim := simF g l (hP g hO hRk) (hM g hO hRk) n lawC 0 _ [] _ _ _ hrun
  have e1 : ([Value.ref b] : List Value) = trs g [.ref 1] := by
    show _ = [tr g (.ref 1)]
    rw [tr_ref (by decide), hb1]
  have e2 : entryFrame m ([Value.ref b] : List Value).toArray 7 = F0 m 0 ((lg_sl (trs g [.ref 1]) ++ List.replicate (7 - (lg_sl (trs g [.ref 1])).length) Slot.unset).toArray) [] := by
    rw [← lg_entry_eq, ← e1]
  rw [e2]
  have h2 : hN (h00 L xs) = 2 := rfl
  have h3 : hS (h00 L xs) = 0 := rfl
  refine hsim p e room_1 s m #[Value.ref b] below meth c s.heap [] 0 0 _ _ _ hCx (by rw [show gA g = fun q => s.heap.size ≤ q by unfold gA; rw [hO]]; exact va_S.rf) (LH_entry (by decide)) hRl ?_ ?_ ?_
  · rw [h2]
    show 0 + (hN h' - 2) ≤ 601024
    omega
  · rw [h3]
    show 0 + (hS h' - 0) ≤ 7293034
    omega
  · intro H1 locs1 pc1 LS1 i info st1 hc hret hRl1 vS1
    have hck := ct_ok hc law_cm
    simp only [chkE, Bool.and_eq_true, decide_eq_true_eq] at hck
    refine W.widen (k := 601024) (n := 7293034) (by rw [h2]; omega) (by rw [h3]; omega) ?_
    refine va_forget (fun q hq => by have := vS1.2.2 q hq; unfold gA at this; rw [hO] at this; exact this) ?_
    unfold retv at hret
    split at hret
    · split at hret <;> cases hret
    · split at hret
      · next hi =>
        obtain ⟨rfl, -⟩ := hi
        cases hret
        exact lw_ret hx hb hr hlocks hck.1
      · cases hret
    · split at hret <;> cases hret
    · split at hret <;> cases hret
    · cases hret

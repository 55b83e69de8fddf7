/-! ===== THE MACHINE FOLLOWS: calls, and whole runs ===== -/
theorem hstep_grow {i : Instr} {info : List Nat} {st : List Value} {h : AH} {q : HSt} (hst : hstep i info st h = some q) : hN h ≤ hN q.2 ∧ hS h ≤ hS q.2 := by
  have r0 : hN h ≤ hN h ∧ hS h ≤ hS h := ⟨Nat.le_refl _, Nat.le_refl _⟩
  have nw0 : ∀ t n sl, hN h ≤ hN (nw h t n sl) ∧ hS h ≤ hS (nw h t n sl) := fun t n sl => ⟨Nat.le_succ _, Nat.le_add_right _ _⟩
  have gf : ∀ ci k kd, getf ci k kd h st = some q → hN h ≤ hN q.2 ∧ hS h ≤ hS q.2 := fun ci k kd e => by
    unfold getf at e
    split at e
    · split at e
      · cases e; exact r0
      · cases e
    · cases e
  have pf : ∀ ci k kd, putf ci k kd h st = some q → hN h ≤ hN q.2 ∧ hS h ≤ hS q.2 := fun ci k kd e => by
    unfold putf at e
    split at e
    · split at e
      · cases e; exact r0
      · cases e
    · split at e
      · cases e; exact r0
      · cases e
    · split at e
      · cases e; exact r0
      · cases e
    · cases e
  have mf : ∀ op, math op h st = some q → hN h ≤ hN q.2 ∧ hS h ≤ hS q.2 := fun op e => by
    unfold math at e
    split at e
    · split at e
      · split at e
        · cases e; exact r0
        · split at e
          · cases e; exact r0
          · cases e
      · cases e
    · split at e
      · cases e; exact r0
      · cases e
    · cases e
  cases i with
  | getfield ix =>
    match info, hst with
    | [ci, k, kd, pl], hst => exact gf _ _ _ hst
  | putfield ix =>
    match info, hst with
    | [ci, k, kd, fin, pl], hst => exact pf _ _ _ hst
  | iaload =>
    have hst : aldI h st = some q := hst
    unfold aldI at hst
    split at hst
    · split at hst
      · cases hst; exact r0
      · cases hst
    · cases hst
  | baload =>
    have hst : aldB h st = some q := hst
    unfold aldB at hst
    split at hst
    · split at hst
      · cases hst; exact r0
      · cases hst
    · cases hst
  | laload =>
    have hst : aldJ h st = some q := hst
    unfold aldJ at hst
    split at hst
    · split at hst
      · cases hst; exact r0
      · cases hst
    · cases hst
  | iastore =>
    have hst : astI h st = some q := hst
    unfold astI at hst
    split at hst
    · split at hst
      · cases hst; exact r0
      · cases hst
    · cases hst
  | bastore =>
    have hst : astB h st = some q := hst
    unfold astB at hst
    split at hst
    · split at hst
      · cases hst; exact r0
      · cases hst
    · cases hst
  | lastore =>
    have hst : astJ h st = some q := hst
    unfold astJ at hst
    split at hst
    · split at hst
      · cases hst; exact r0
      · cases hst
    · cases hst
  | arraylength =>
    have hst : alen h st = some q := hst
    unfold alen at hst
    split at hst
    · split at hst
      · cases hst; exact r0
      · cases hst
    · cases hst
  | newarray a =>
    match info, hst with
    | [t, pl], hst =>
      have hst : newa t h st = some q := hst
      unfold newa at hst
      split at hst
      · split at hst
        · cases hst; exact nw0 _ _ _
        · cases hst
      · cases hst
  | new ix =>
    match info, hst with
    | [ci, n, p1, p2, p3], hst => cases Option.some.inj hst; exact nw0 _ _ _
  | invokespecial ix =>
    have hst : obin h st = some q := hst
    unfold obin at hst
    split at hst
    · split at hst
      · cases hst; exact r0
      · cases hst
    · cases hst
  | invokestatic ix =>
    match info, hst with
    | op :: _, hst => exact mf _ hst
  | _ => cases hst
theorem retv_h {i : Instr} {info : List Nat} {st : List Value} {h : AH} {q : Option Value × AH} (hst : retv i info h st = some q) : q.2 = h := by
  unfold retv at hst
  split at hst
  all_goals first | (cases hst; done) | (split at hst <;> first | (cases hst; rfl) | (cases hst; done))
theorem prim_grow {c : Nat} {av : List Value} {h : AH} {q : Option Value × AH} (hst : prim c av h = some q) : hN h ≤ hN q.2 ∧ hS h ≤ hS q.2 := by
  have r0 : hN h ≤ hN h ∧ hS h ≤ hS h := ⟨Nat.le_refl _, Nat.le_refl _⟩
  have nw0 : hN h ≤ hN (thr h) ∧ hS h ≤ hS (thr h) := ⟨Nat.le_succ _, Nat.le_add_right _ _⟩
  unfold prim at hst
  split at hst
  · split at hst
    · split at hst
      · split at hst
        · cases hst; exact r0
        · cases hst; exact nw0
      · split at hst
        · split at hst
          · cases hst; exact r0
          · cases hst; exact nw0
        · cases hst
    · cases hst
  · cases hst
theorem run_grow : ∀ (n m pc : Nat) (ls st : List Value) (h : AH) (r : Option Value × AH), run n m pc ls st h = some r → hN h ≤ hN r.2 ∧ hS h ≤ hS r.2
  | 0, _, _, _, _, _, _, e => by cases e
  | n + 1, m, pc, ls, st, h, r, e => by
    cases hc : ct m pc with
    | none => simp only [run, hc] at e; cases e
    | some x =>
      obtain ⟨i, cat, info⟩ := x
      match cat, hc with
      | 0, hc =>
        rw [run_0 hc] at e
        cases hl : lstep i info pc ls st with
        | none => rw [hl] at e; cases e
        | some q => rw [hl] at e; exact run_grow n _ _ _ _ _ _ e
      | 1, hc =>
        rw [run_1 hc] at e
        cases hl : hstep i info st h with
        | none => rw [hl] at e; cases e
        | some q =>
          rw [hl] at e
          have h1 := hstep_grow hl
          have h2 := run_grow n _ _ _ _ _ _ e
          exact ⟨Nat.le_trans h1.1 h2.1, Nat.le_trans h1.2 h2.2⟩
      | 2, hc =>
        rw [run_2 hc] at e
        rw [retv_h e]
        exact ⟨Nat.le_refl _, Nat.le_refl _⟩
      | 3, hc =>
        rw [run_3 hc] at e
        cases hl : popc info st h with
        | none => rw [hl] at e; cases e
        | some q =>
          rw [hl] at e
          simp only [Option.bind_some] at e
          cases hz : runM n q.1 q.2.1 h with
          | none => rw [hz] at e; cases e
          | some z =>
            rw [hz] at e
            have h1 : hN h ≤ hN z.2 ∧ hS h ≤ hS z.2 := by
              unfold runM at hz
              split at hz
              · exact prim_grow hz
              · split at hz
                · exact run_grow n _ _ _ _ _ _ hz
                · cases hz
            have h2 := run_grow n _ _ _ _ _ _ e
            exact ⟨Nat.le_trans h1.1 h2.1, Nat.le_trans h1.2 h2.2⟩
      | k + 4, hc =>
        match info, hc with
        | [v, pc'], hc =>
          rw [run_4 hc] at e
          split at e
          · exact run_grow n _ _ _ _ _ _ e
          · cases e
        | [], hc => simp only [run, hc] at e; cases e
        | [_], hc => simp only [run, hc] at e; cases e
        | _ :: _ :: _ :: _, hc => simp only [run, hc] at e; cases e
theorem runM_grow {n c : Nat} {av : List Value} {h : AH} {z : Option Value × AH} (hz : runM n c av h = some z) : hN h ≤ hN z.2 ∧ hS h ≤ hS z.2 := by
  unfold runM at hz
  split at hz
  · exact prim_grow hz
  · split at hz
    · exact run_grow n _ _ _ _ _ _ hz
    · cases hz
/-! entry -/
theorem ent_len (g : GG) : ∀ av : List Value, (lg_sl (trs g av)).length = (lsl av).length
  | [] => rfl
  | a :: t => by
    have ih := ent_len g t
    have e1 : lg_sl (trs g (a :: t)) = (if (tr g a).category = 2 then [.val (tr g a), .second] else [.val (tr g a)]) ++ lg_sl (trs g t) := by simp [lg_sl, trs]
    have e2 : lsl (a :: t) = (if a.category = 2 then [a, .retAddr 0] else [a]) ++ lsl t := by simp [lsl]
    rw [e1, e2, List.length_append, List.length_append, ih, tr_cat]
    split <;> rfl
theorem ent_at (g : GG) : ∀ (av : List Value) (i : Nat) (v : Value), (lsl av)[i]? = some v → (∀ q, v ≠ .retAddr q) → (lg_sl (trs g av))[i]? = some (.val (tr g v))
  | [], i, v, h, _ => by simp [lsl] at h
  | a :: t, i, v, h, hv => by
    have e1 : lg_sl (trs g (a :: t)) = (if (tr g a).category = 2 then [.val (tr g a), .second] else [.val (tr g a)]) ++ lg_sl (trs g t) := by simp [lg_sl, trs]
    have e2 : lsl (a :: t) = (if a.category = 2 then [a, .retAddr 0] else [a]) ++ lsl t := by simp [lsl]
    rw [e2] at h
    rw [e1, tr_cat]
    by_cases hc : a.category = 2
    · rw [if_pos hc] at h ⊢
      match i, h with
      | 0, h => cases h; rfl
      | 1, h => cases h; exact absurd rfl (hv 0)
      | i + 2, h => exact ent_at g t i v h hv
    · rw [if_neg hc] at h ⊢
      match i, h with
      | 0, h => cases h; rfl
      | i + 1, h => exact ent_at g t i v h hv
theorem LH_entry {g : GG} {av : List Value} {n : Nat} (hn : (lsl av).length ≤ n) : LH g ((lg_sl (trs g av) ++ List.replicate (n - (lg_sl (trs g av)).length) Slot.unset).toArray) n (lent av n) := by
  have hl := lv_entry (trs g av) (n := n) (by rw [ent_len]; exact hn)
  refine ⟨hl.1, hl.2.1, ?_, fun i v hi hv => ?_⟩
  · simp only [lent, List.length_append, List.length_replicate]
    omega
  · unfold lent at hi
    by_cases hlt : i < (lsl av).length
    · rw [List.getElem?_append_left hlt] at hi
      have h1 := ent_at g av i v hi hv
      simp only [List.getElem?_toArray]
      rw [List.getElem?_append_left (by rw [ent_len]; exact hlt)]
      exact h1
    · rw [List.getElem?_append_right (by omega)] at hi
      rw [List.getElem?_replicate] at hi
      split at hi
      · cases hi; exact absurd rfl (hv 0)
      · cases hi
/-! contracts -/
def PcR (g : GG) (av : List Value) (h : AH) : Array Value → State → Prop := va_Pc (trs g av) (fun U => Rl g h U.heap ∧ Rk g U)
def QcR (g : GG) (r : Option Value) (h' : AH) : Array Value → State → Outcome → State → Prop := fun _ st o t => o = .returned (r.map (tr g)) ∧ Rl g h' t.heap ∧ va_F (gA g) st t
theorem PcR_blind (g : GG) (av : List Value) (h : AH) : FrameBlind (PcR g av h) := by
  intro a U gg mk hp
  obtain ⟨h1, h2, h3, h4, h5, h6, h7⟩ := hp
  refine ⟨h1, h2, va_K.moved (u := U) (U := U.calling gg mk a) (Vm.Alike.refl U.vm) h3, fun w hw => ?_, va_X.moved (u := U) (U := U.calling gg mk a) (Vm.Alike.refl U.vm) h5, h6, h7⟩
  exact NW_warm hw (s := U) (U := U.calling gg mk a) (State.WarmedH.refl U) (h4 w hw)
section SimC
variable {p : Program} {l : Launch} {e : Env} {R : Room} {s : State} {m : MethodId} {args : Array Value} {below : List Frame} {meth : Method} {c : Code} {H : Heap} {locs : List Loc} {cells slots : Nat} {Q : State → Prop}
theorem call_go {g : GG} {h1 : AH} {r : Option Value} {a : Array Value} {pc mc ms : Nat} {LS : Array Slot} {st0 rest : List Value} (hr : va_Run p l e R s m args below meth c H locs cells slots mc ms (F0 m pc LS st0) rest (QcR g r h1 a) (gA g)) (vS : va_S (gA g) s.heap H locs)
    (kk : ∀ (H1 : Heap) (locs1 : List Loc), Rl g h1 H1 → va_S (gA g) s.heap H1 locs1 → W p l e R s m args below meth c H1 locs1 (cells + mc) (slots + ms) Q (F0 m (pc + 3) LS ((r.map (tr g)).toList ++ rest))) : W p l e R s m args below meth c H locs cells slots Q (F0 m pc LS st0) := by
  intro T hT X
  obtain ⟨v, st₀, t, T', L, h0, X', hL, e1, e2, ⟨hv, hRl, hz, hk⟩, st⟩ := hr T hT X
  cases hv
  rw [h0] at hz hk
  obtain ⟨t2, a1, b1⟩ := kk T'.heap (locs ++ L) (by rw [e1]; exact hRl)
    ⟨Nat.le_trans vS.1 (by rw [e1]; exact hz), fun q q1 q2 => by rw [e1, hk q (Nat.lt_of_lt_of_le q1 vS.1) q2]; exact vS.2.1 q q1 q2, fun q hq => by
      rcases List.mem_append.mp hq with z | z
      · exact vS.2.2 q z
      · exact hL q z⟩ T' rfl X'
  exact ⟨t2, st t2 a1, b1⟩
end SimC
/-- where a method stands -/
def Cx (g : GG) (c : Nat) (p : Program) (R : Room) (s : State) (m : MethodId) (args : Array Value) (meth : Method) (cd : Code) (e9 : MInfo) : Prop :=
  mi c = some e9 ∧ p.tables.exec = Jvm.exec ∧ cd.code = e9.2.1 ∧ cd.maxLocals = e9.2.2.1 ∧ s.vm.findClass e9.1.cls = some m.cls ∧ (∀ w ∈ TB, w.before args s = true) ∧ Rk g s ∧ e9.2.2.2.2.1 ≤ R.frames ∧ e9.2.2.2.2.2.1 ≤ R.locals ∧ (e9.1.name = "<init>" → meth.name = "<init>")
def SimAt (g : GG) (l : Launch) (c pc : Nat) (ls st : List Value) (h : AH) (r : Option Value) (h' : AH) : Prop :=
  ∀ (p : Program) (e : Env) (R : Room) (s : State) (m : MethodId) (args : Array Value) (below : List Frame) (meth : Method) (cd : Code) (H : Heap) (locs : List Loc) (cells slots : Nat) (Q : State → Prop) (LS : Array Slot) (e9 : MInfo), Cx g c p R s m args meth cd e9 → va_S (gA g) s.heap H locs → LH g LS e9.2.2.1 ls → Rl g h H →
    cells + (hN h' - hN h) ≤ R.cells → slots + (hS h' - hS h) ≤ R.slots →
    (∀ (H1 : Heap) (locs1 : List Loc) (pc1 : Nat) (LS1 : Array Slot) (i : Instr) (info : List Nat) (st1 : List Value), ct c pc1 = some (i, 2, info) → retv i info h' st1 = some (r, h') → Rl g h' H1 → va_S (gA g) s.heap H1 locs1 → W p l e R s m args below meth cd H1 locs1 (cells + (hN h' - hN h)) (slots + (hS h' - hS h)) Q (F0 m pc1 LS1 (trs g st1))) →
    W p l e R s m args below meth cd H locs cells slots Q (F0 m pc LS (trs g st))
/-- a call of what may throw, by the law alone -/
def PrimOK (g : GG) (l : Launch) : Prop := ∀ (c pc k : Nat) (i : Instr) (ls st av rest : List Value) (inf : List Nat) (h : AH) (z : Option Value × AH), ct c pc = some (i, 3, inf) → popc inf st h = some (k, av, rest) → 900 ≤ k → prim k av h = some z →
  ∀ (p : Program) (e : Env) (R : Room) (s : State) (m : MethodId) (args : Array Value) (below : List Frame) (meth : Method) (cd : Code) (H : Heap) (locs : List Loc) (cells slots : Nat) (Q : State → Prop) (LS : Array Slot) (e9 : MInfo), Cx g c p R s m args meth cd e9 → va_S (gA g) s.heap H locs → LH g LS e9.2.2.1 ls → Rl g h H →
    cells + (hN z.2 - hN h) ≤ R.cells → slots + (hS z.2 - hS h) ≤ R.slots →
    (∀ (H1 : Heap) (locs1 : List Loc), Rl g z.2 H1 → va_S (gA g) s.heap H1 locs1 → W p l e R s m args below meth cd H1 locs1 (cells + (hN z.2 - hN h)) (slots + (hS z.2 - hS h)) Q (F0 m (pc + 3) LS (trs g (z.1.toList ++ rest)))) →
    W p l e R s m args below meth cd H locs cells slots Q (F0 m pc LS (trs g st))
/-- Tokens(): a text constant and its spell() -/
def MacOK (g : GG) (l : Launch) : Prop := ∀ (c pc k v pc' : Nat) (i : Instr) (ls st : List Value) (h : AH), ct c pc = some (i, k + 4, [v, pc']) →
  ∀ (p : Program) (e : Env) (R : Room) (s : State) (m : MethodId) (args : Array Value) (below : List Frame) (meth : Method) (cd : Code) (H : Heap) (locs : List Loc) (cells slots : Nat) (Q : State → Prop) (LS : Array Slot) (e9 : MInfo), Cx g c p R s m args meth cd e9 → va_S (gA g) s.heap H locs → LH g LS e9.2.2.1 ls → Rl g h H → cells ≤ R.cells → slots ≤ R.slots → (st.map fun v => v.category).sum ≤ 8 →
    (∀ (H1 : Heap) (locs1 : List Loc), Rl g h H1 → va_S (gA g) s.heap H1 locs1 → W p l e R s m args below meth cd H1 locs1 cells slots Q (F0 m pc' LS (trs g (.int (nI v) :: st)))) →
    W p l e R s m args below meth cd H locs cells slots Q (F0 m pc LS (trs g st))

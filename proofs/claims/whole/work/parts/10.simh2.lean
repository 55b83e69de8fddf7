/-! ===== stores into arrays, new cells, Object(), Math ===== -/
section SimH2
variable {p : Program} {l : Launch} {e : Env} {R : Room} {s : State} {m : MethodId} {args : Array Value} {below : List Frame} {meth : Method} {c : Code} {H : Heap} {locs : List Loc} {cells slots : Nat} {Q : State → Prop}
variable {cc : ByteArray} {own nm : String} {pc : Nat} {LS : Array Slot} {info : List Nat} {g : GG} {h : AH} {st : List Value} {q : HSt}
theorem nar_int (t : FieldType) (x : Int32) : narrow t (.int x) = .int (vp_nar t x) := by cases t <;> rfl
theorem sim_ast (hK : Rk g s) (vS : va_S (gA g) s.heap H locs) (rl : Rl g h H) (hx : p.tables.exec = Jvm.exec) (hb : c.code = cc) {i : Instr} (hdg : decode cc pc = .ok (i, 1))
    (hst : (i = .iastore ∧ astI h st = some q) ∨ (i = .bastore ∧ astB h st = some q) ∨ (i = .lastore ∧ astJ h st = some q)) (kk : KH p l e R s m args below meth c cells slots Q g h q.2 (pc + 1) LS q.1) : W p l e R s m args below meth c H locs cells slots Q (F0 m pc LS (trs g st)) := by
  rcases hst with ⟨rfl, hst⟩ | ⟨rfl, hst⟩ | ⟨rfl, hst⟩
  · unfold astI at hst
    split at hst
    · next x i a r =>
      split at hst
      · next hc =>
        cases hst
        have ht := hc.1
        have hlv := rl.live (a := a) (by rw [ht]; decide) (by rw [ht]; decide)
        have hcell := (rl.2.2.1 a hlv.1 hlv.2).2.1 ht
        show W p l e R s m args below meth c H locs cells slots Q (F0 m pc LS (.int x :: .int i :: tr g (.ref a) :: trs g r))
        rw [tr_ref (by omega)]
        refine W.iast hx hb hcell ((hK.1.2 0 _ (tys4_I g)).1 _ _) (fun q => by cases q) (inb_arr hc.2) rfl rfl hdg fun H1 e1 z1 o1 => ?_
        rw [arrV_store] at e1
        exact kk.same rfl rfl (rl.sI hlv.1 z1 o1 (Cel_ast ht (Or.inl ⟨rfl, rfl⟩) e1)) (vS.put z1 o1 (ro_ge hlv.1))
      · cases hst
    · cases hst
  · unfold astB at hst
    split at hst
    · next x i a r =>
      split at hst
      · next hc =>
        cases hst
        rcases hc.1 with ht | ht
        · have hlv := rl.live (a := a) (by rw [ht]; decide) (by rw [ht]; decide)
          have hcell := (rl.2.2.1 a hlv.1 hlv.2).2.2.1 ht
          rw [if_pos ht] at kk
          show W p l e R s m args below meth c H locs cells slots Q (F0 m pc LS (.int x :: .int i :: tr g (.ref a) :: trs g r))
          rw [tr_ref (by omega)]
          refine W.bast hx hb hcell ((hK.1.2 1 _ (tys4_B g)).1 _ _) (fun q => by cases q) (inb_arr hc.2) rfl rfl hdg fun H1 e1 z1 o1 => ?_
          rw [arrV_store, nar_int] at e1
          exact kk.same rfl rfl (rl.sI hlv.1 z1 o1 (Cel_ast ht (Or.inr (Or.inl ⟨rfl, rfl⟩)) e1)) (vS.put z1 o1 (ro_ge hlv.1))
        · have hlv := rl.live (a := a) (by rw [ht]; decide) (by rw [ht]; decide)
          have hcell := (rl.2.2.1 a hlv.1 hlv.2).2.2.2.1 ht
          rw [if_neg (by rw [ht]; decide)] at kk
          show W p l e R s m args below meth c H locs cells slots Q (F0 m pc LS (.int x :: .int i :: tr g (.ref a) :: trs g r))
          rw [tr_ref (by omega)]
          refine W.zast hx hb hcell ((hK.1.2 2 _ (tys4_Z g)).1 _ _) (fun q => by cases q) (inb_arr hc.2) rfl rfl hdg fun H1 e1 z1 o1 => ?_
          rw [arrV_store, nar_int] at e1
          exact kk.same rfl rfl (rl.sI hlv.1 z1 o1 (Cel_ast ht (Or.inr (Or.inr ⟨rfl, rfl⟩)) e1)) (vS.put z1 o1 (ro_ge hlv.1))
      · cases hst
    · cases hst
  · unfold astJ at hst
    split at hst
    · next x i a r =>
      split at hst
      · next hc =>
        cases hst
        have ht := hc.1
        have hlv := rl.live (a := a) (by rw [ht]; decide) (by rw [ht]; decide)
        have hcell := (rl.2.2.1 a hlv.1 hlv.2).2.2.2.2 ht
        show W p l e R s m args below meth c H locs cells slots Q (F0 m pc LS (.long x :: .int i :: tr g (.ref a) :: trs g r))
        rw [tr_ref (by omega)]
        refine W.last hx hb hcell ((hK.1.2 3 _ (tys4_J g)).1 _ _) (fun q => by cases q) (inb_arr hc.2) rfl rfl hdg fun H1 e1 z1 o1 => ?_
        rw [arrV_store] at e1
        exact kk.same rfl rfl (rl.sJ hlv.1 z1 o1 (Cel_astJ ht e1)) (vS.put z1 o1 (ro_ge hlv.1))
      · cases hst
    · cases hst
theorem sim_alen (hK : Rk g s) (vS : va_S (gA g) s.heap H locs) (rl : Rl g h H) (hx : p.tables.exec = Jvm.exec) (hb : c.code = cc) (hdg : decode cc pc = .ok (.arraylength, 1)) (hst : alen h st = some q) (kk : KH p l e R s m args below meth c cells slots Q g h q.2 (pc + 1) LS q.1) : W p l e R s m args below meth c H locs cells slots Q (F0 m pc LS (trs g st)) := by
  unfold alen at hst
  split at hst
  · next a r =>
    split at hst
    · next hc =>
      cases hst
      have k9 : W p l e R s m args below meth c H locs cells slots Q (F0 m (pc + 1) LS (.int (nI (hL h a)) :: trs g r)) := kk.same rfl rfl rl vS
      have core : ∀ (cA : ClassId) (ty : FieldType) (f : Nat → Value) (k : Nat), 2 ≤ a → (tys4 g)[k]? = some (cA, ty) → H[ro g a]? = some (arrV cA (hL h a) f) → W p l e R s m args below meth c H locs cells slots Q (F0 m pc LS (trs g (.ref a :: r))) := by
        intro cA ty f k h2 hk hcell
        show W p l e R s m args below meth c H locs cells slots Q (F0 m pc LS (tr g (.ref a) :: trs g r))
        rw [tr_ref (ne0_of h2)]
        exact W.alen (n := nI (hL h a)) hx hb hcell ((hK.1.2 k _ hk).1 _ _) (by rw [arrV_size]; rfl) rfl rfl hdg k9
      rcases hc with ht | ht | ht | ht | ht
      · have hlv := rl.live (a := a) (by rw [ht]; decide) (by rw [ht]; decide)
        exact core _ _ _ 0 hlv.1 (tys4_I g) ((rl.2.2.1 a hlv.1 hlv.2).2.1 ht)
      · have hlv := rl.live (a := a) (by rw [ht]; decide) (by rw [ht]; decide)
        exact core _ _ _ 1 hlv.1 (tys4_B g) ((rl.2.2.1 a hlv.1 hlv.2).2.2.1 ht)
      · have hlv := rl.live (a := a) (by rw [ht]; decide) (by rw [ht]; decide)
        exact core _ _ _ 2 hlv.1 (tys4_Z g) ((rl.2.2.1 a hlv.1 hlv.2).2.2.2.1 ht)
      · have hlv := rl.live (a := a) (by rw [ht]; decide) (by rw [ht]; decide)
        exact core _ _ _ 3 hlv.1 (tys4_J g) ((rl.2.2.1 a hlv.1 hlv.2).2.2.2.2 ht)
      · have ha : a = 1 := rl.scr ht
        subst ha
        obtain ⟨-, -, -, -, -, -, e7, -, -⟩ := rl
        rw [e7] at k9
        show W p l e R s m args below meth c H locs cells slots Q (F0 m pc LS (tr g (.ref 1) :: trs g r))
        rw [tr_ref (by decide)]
        exact va_slen hx hb hK.2.2.1 (Nat.lt_of_lt_of_le hK.2.2.2.1 hK.2.2.2.2) (Nat.not_le.mpr hK.2.2.2.1) vS hdg k9
    · cases hst
  · cases hst
/-- a new array's cell -/
theorem Cel_new {t n : Nat} {H1 : Heap} {cA : ClassId} {v : Value} (htt : (t = 100 ∧ cA = gI g ∧ v = .int 0) ∨ (t = 101 ∧ cA = gB g ∧ v = .int 0) ∨ (t = 102 ∧ cA = gZ g ∧ v = .int 0) ∨ (t = 103 ∧ cA = gJ g ∧ v = .long 0)) (e1 : H1[ro g (hN h)]? = some (arrV cA n (fun _ => v))) : Cel g (nw h t n n) (hN h) H1 := by
  have eT : hT (nw h t n n) (hN h) = t := va_up_self _ _ _
  have eL : hL (nw h t n n) (hN h) = n := va_up_self _ _ _
  have eI : hI (nw h t n n) (hN h) = fun _ => 0 := va_up_self _ _ _
  have eJ : hJ (nw h t n n) (hN h) = fun _ => 0 := va_up_self _ _ _
  refine ⟨fun ci q hv h9 => ?_, fun h9 => ?_, fun h9 => ?_, fun h9 => ?_, fun h9 => ?_⟩
  · have := vwCl_lt hv
    rw [eT] at h9
    omega
  all_goals
    rw [eT] at h9
    rw [eL]
    first | rw [eI] | rw [eJ]
    rcases htt with ⟨_, rfl, rfl⟩ | ⟨_, rfl, rfl⟩ | ⟨_, rfl, rfl⟩ | ⟨_, rfl, rfl⟩ <;> first | exact e1 | omega
theorem sim_newa {at9 : ArrayType} {t pl : Nat} (hts : ∀ w ∈ TB, w.before args s = true) (hK : Rk g s) (vS : va_S (gA g) s.heap H locs) (rl : Rl g h H) (hx : p.tables.exec = Jvm.exec) (hb : c.code = cc) (hdg : decode cc pc = .ok (.newarray at9, 2)) (hck : (decide (atag at9 = t) && TBw pl (.arrayClass (newarray.typeOf at9))) = true) (hst : newa t h st = some q)
    (hc : cells + (hN q.2 - hN h) ≤ R.cells) (hs : slots + (hS q.2 - hS h) ≤ R.slots) (kk : KH p l e R s m args below meth c cells slots Q g h q.2 (pc + 2) LS q.1) : W p l e R s m args below meth c H locs cells slots Q (F0 m pc LS (trs g st)) := by
  simp only [Bool.and_eq_true, decide_eq_true_eq] at hck
  unfold newa at hst
  split at hst
  · next n r =>
    split at hst
    · next h0 =>
      cases hst
      have eN : hN (nw h t n.toNatClampNeg n.toNatClampNeg) - hN h = 1 := by show hN h + 1 - hN h = 1; omega
      have eS : hS (nw h t n.toNatClampNeg n.toNatClampNeg) - hS h = n.toNatClampNeg := by show hS h + n.toNatClampNeg - hS h = _; omega
      dsimp only at hc hs
      rw [eN] at hc
      rw [eS] at hs
      have hn : ¬ n < 0 := fun z => by
        have h1 := h0.1
        rw [Int32.lt_iff_toInt_lt] at z
        rw [Int32.le_iff_toInt_le] at h1
        omega
      have hcb : componentBytes (newarray.typeOf at9) ≤ 8 := by cases at9 <;> decide
      refine va_newaK hx hb (hts _ (TBw_in hck.2)) rfl hdg rfl hn rfl (Nat.le_trans (Nat.mul_le_mul h0.2.1 hcb) (by decide)) hc hs rfl fun H1 cA e1 z1 o1 hAr hNm => ?_
      have hsz : H.size = ro g (hN h) := by
        rw [ro_eq rl.2.1]
        have := rl.1
        have := rl.2.1
        omega
      rw [hsz] at e1
      have hRA : ∀ (k : Nat) (cA' : ClassId) (ty : FieldType), (tys4 g)[k]? = some (cA', ty) → newarray.typeOf at9 = ty → cA' = cA := by
        intro k cA' ty hk hty
        have h8 := (hK.1.2 k _ hk).2
        subst hty
        have h7 : s.vm.findClass ("[" ++ (newarray.typeOf at9).toString) = some cA' := by cases at9 <;> exact h8
        exact Option.some.inj (h7.symm.trans hNm)
      have hcel : Cel g (nw h t n.toNatClampNeg n.toNatClampNeg) (hN h) H1 := by
        cases at9 with
        | int => exact Cel_new (Or.inl ⟨hck.1.symm, (hRA 0 _ _ (tys4_I g) rfl).symm, rfl⟩) e1
        | byte => exact Cel_new (Or.inr (Or.inl ⟨hck.1.symm, (hRA 1 _ _ (tys4_B g) rfl).symm, rfl⟩)) e1
        | boolean => exact Cel_new (Or.inr (Or.inr (Or.inl ⟨hck.1.symm, (hRA 2 _ _ (tys4_Z g) rfl).symm, rfl⟩))) e1
        | long => exact Cel_new (Or.inr (Or.inr (Or.inr ⟨hck.1.symm, (hRA 3 _ _ (tys4_J g) rfl).symm, rfl⟩))) e1
        | _ => exact absurd h0.2.2 (by rw [← hck.1]; decide)
      have hRl := Rl.new (by rcases h0.2.2 with q | q | q | q <;> omega) rl z1 o1 hcel
      have h9 := kk H1 locs hRl ⟨Nat.le_trans vS.1 (by omega), fun x h1 h2 => (o1 x (Nat.lt_of_lt_of_le h1 vS.1)).trans (vS.2.1 x h1 h2), vS.2.2⟩
      dsimp only at h9
      rw [eN, eS] at h9
      have e7 : trs g (.ref (hN h) :: r) = .ref H.size :: trs g r := by
        show tr g (.ref (hN h)) :: _ = _
        rw [tr_ref (by have := rl.2.1; omega), hsz]
        rfl
      rw [e7] at h9
      exact h9
    · cases hst
  · cases hst
theorem sim_new {ci n p1 p2 p3 ix : Nat} (hts : ∀ w ∈ TB, w.before args s = true) (hown : s.vm.findClass own = some m.cls) (hK : Rk g s) (vS : va_S (gA g) s.heap H locs) (rl : Rl g h H) (hx : p.tables.exec = Jvm.exec) (hb : c.code = cc) (hdg : decode cc pc = .ok (.new ix, 3)) (hck : chkN own ix [ci, n, p1, p2, p3] = true)
    (hc : cells + 1 ≤ R.cells) (hs : slots + n ≤ R.slots) (kk : KH p l e R s m args below meth c cells slots Q g h (nw h (ci + 1) 0 n) (pc + 3) LS (.ref (hN h) :: st)) : W p l e R s m args below meth c H locs cells slots Q (F0 m pc LS (trs g st)) := by
  unfold chkN at hck
  dsimp only at hck
  cases hz : vwCl[ci]? with
  | none => rw [hz] at hck; cases hck
  | some z =>
    rw [hz] at hck
    simp only [Bool.and_eq_true, decide_eq_true_eq] at hck
    obtain ⟨⟨⟨h1, h2⟩, h3⟩, h4⟩ := hck
    subst h1
    have hl13 := vwCl_lt hz
    obtain ⟨ty, hcl⟩ := cls_ok hz
    have hKn := hK.1.1 ci _ hz
    have hsz : H.size = ro g (hN h) := by
      rw [ro_eq rl.2.1]
      have := rl.1
      have := rl.2.1
      omega
    refine W.newcK hx hb hown (hts _ (TBw_in h2)) (hts _ (TBw_in h3)) (hts _ (TBw_in h4)) rfl hdg hc hs hKn.2.1 rfl fun H1 kC hkC e1 z1 o1 => ?_
    have hob := u_born ty hts hcl.1 hKn hkC e1 hcl.2.1
    rw [hsz] at hob
    have eT : hT (nw h (ci + 1) 0 z.2.2) (hN h) = ci + 1 := va_up_self _ _ _
    have eI : hI (nw h (ci + 1) 0 z.2.2) (hN h) = fun _ => 0 := va_up_self _ _ _
    have eJ : hJ (nw h (ci + 1) 0 z.2.2) (hN h) = fun _ => 0 := va_up_self _ _ _
    have eR : hR (nw h (ci + 1) 0 z.2.2) (hN h) = fun _ => 0 := va_up_self _ _ _
    have hcel : Cel g (nw h (ci + 1) 0 z.2.2) (hN h) H1 := by
      refine ⟨fun ci' q' hv h9 => ?_, fun h9 => ?_, fun h9 => ?_, fun h9 => ?_, fun h9 => ?_⟩
      · have : ci' = ci := by rw [eT] at h9; omega
        subst this
        cases hz.symm.trans hv
        refine hob.to (fun k hk => ?_)
        have hfk : fk ci' k = kdD (z.2.1 k).2.2.1 := by unfold fk; rw [hz]
        rcases hcl.2.2.2 k hk with ⟨q1, q2⟩ | ⟨q1, q2⟩ | ⟨q1, q2⟩ | ⟨q1, q2⟩
        · rw [q2]; unfold fval; rw [hfk, q1, eI]; rfl
        · rw [q2]; unfold fval; rw [hfk, q1, eJ]; rfl
        · rw [q2]; unfold fval; rw [hfk, q1, eI]; rfl
        · unfold fval; rw [hfk, q1, eR]
          cases hty : ty k <;> rw [hty] at q2 <;> first | rfl | cases q2
      all_goals (rw [eT] at h9; omega)
    have hRl := Rl.new (by omega) rl z1 o1 hcel
    have h9 := kk H1 locs hRl ⟨Nat.le_trans vS.1 (by omega), fun x h1 h2 => (o1 x (Nat.lt_of_lt_of_le h1 vS.1)).trans (vS.2.1 x h1 h2), vS.2.2⟩
    have eN : hN (nw h (ci + 1) 0 z.2.2) - hN h = 1 := by show hN h + 1 - hN h = 1; omega
    have eS : hS (nw h (ci + 1) 0 z.2.2) - hS h = z.2.2 := by show hS h + z.2.2 - hS h = _; omega
    rw [eN, eS] at h9
    have e7 : trs g (.ref (hN h) :: st) = .ref H.size :: trs g st := by
      show tr g (.ref (hN h)) :: _ = _
      rw [tr_ref (by have := rl.2.1; omega), hsz]
      rfl
    rw [e7] at h9
    exact h9
/-- all steps on the heap -/
theorem simH {i : Instr} (hx : p.tables.exec = Jvm.exec) (hb : c.code = cc) (hml : c.maxLocals = LS.size) (hown : s.vm.findClass own = some m.cls) (hts : ∀ w ∈ TB, w.before args s = true) (hK : Rk g s) (hnm : nm = "<init>" → meth.name = "<init>") (hfr : 1 ≤ R.frames) (hlo : 24 ≤ R.locals) (hdg : decode cc pc = .ok (i, ilen i info)) (hck : chk1 own nm i info = true)
    (vS : va_S (gA g) s.heap H locs) (rl : Rl g h H) (hst : hstep i info st h = some q) (hc : cells + (hN q.2 - hN h) ≤ R.cells) (hs : slots + (hS q.2 - hS h) ≤ R.slots) (kk : KH p l e R s m args below meth c cells slots Q g h q.2 (pc + ilen i info) LS q.1) : W p l e R s m args below meth c H locs cells slots Q (F0 m pc LS (trs g st)) := by
  cases i with
  | getfield ix =>
    match info, hst, hck, hdg, kk with
    | [ci, k, kd, pl], hst, hck, hdg, kk => exact sim_getf hx hb hts hown hK hdg hck vS rl hst kk
  | putfield ix =>
    match info, hst, hck, hdg, kk with
    | [ci, k, kd, fin, pl], hst, hck, hdg, kk => exact sim_putf hx hb hts hown hK hnm hdg hck vS rl hst kk
  | iaload =>
    change aldI h st = some q at hst
    unfold aldI at hst
    split at hst
    · next i a r =>
      split at hst
      · next h0 =>
        cases hst
        have h9 := sim_ald (p := p) (l := l) (e := e) (R := R) (m := m) (args := args) (below := below) (meth := meth) (cells := cells) (slots := slots) (Q := Q) (pc := pc) (LS := LS) (r := r) hK vS rl hx hb h0.2
        rcases h0.1 with ht | ht
        · exact h9.1 ht hdg (kk.same rfl rfl rl vS)
        · exact h9.2.1 ht hdg (kk.same rfl rfl rl vS)
      · cases hst
    · cases hst
  | baload =>
    change aldB h st = some q at hst
    unfold aldB at hst
    split at hst
    · next i a r =>
      split at hst
      · next h0 =>
        cases hst
        have h9 := sim_ald (p := p) (l := l) (e := e) (R := R) (m := m) (args := args) (below := below) (meth := meth) (cells := cells) (slots := slots) (Q := Q) (pc := pc) (LS := LS) (r := r) hK vS rl hx hb h0.2
        rcases h0.1 with ht | ht
        · exact h9.2.2.1 ht hdg (kk.same rfl rfl rl vS)
        · exact h9.2.2.2.1 ht hdg (kk.same rfl rfl rl vS)
      · cases hst
    · cases hst
  | laload =>
    change aldJ h st = some q at hst
    unfold aldJ at hst
    split at hst
    · next i a r =>
      split at hst
      · next h0 =>
        cases hst
        have h9 := sim_ald (p := p) (l := l) (e := e) (R := R) (m := m) (args := args) (below := below) (meth := meth) (cells := cells) (slots := slots) (Q := Q) (pc := pc) (LS := LS) (r := r) hK vS rl hx hb h0.2
        exact h9.2.2.2.2 h0.1 hdg (kk.same rfl rfl rl vS)
      · cases hst
    · cases hst
  | iastore => exact sim_ast hK vS rl hx hb hdg (Or.inl ⟨rfl, hst⟩) kk
  | bastore => exact sim_ast hK vS rl hx hb hdg (Or.inr (Or.inl ⟨rfl, hst⟩)) kk
  | lastore => exact sim_ast hK vS rl hx hb hdg (Or.inr (Or.inr ⟨rfl, hst⟩)) kk
  | arraylength => exact sim_alen hK vS rl hx hb hdg hst kk
  | newarray at9 =>
    match info, hst, hck, hdg, kk with
    | [t, pl], hst, hck, hdg, kk => exact sim_newa hts hK vS rl hx hb hdg hck hst hc hs kk
  | new ix =>
    match info, hst, hck, hdg, kk with
    | [ci, n, p1, p2, p3], hst, hck, hdg, kk =>
      cases Option.some.inj hst
      have eN : hN (nw h (ci + 1) 0 n) - hN h = 1 := by show hN h + 1 - hN h = 1; omega
      have eS : hS (nw h (ci + 1) 0 n) - hS h = n := by show hS h + n - hS h = _; omega
      dsimp only at hc hs
      rw [eN] at hc
      rw [eS] at hs
      exact sim_new hts hown hK vS rl hx hb hdg hck hc hs kk
  | invokespecial ix =>
    match info, hst, hck, hdg, kk with
    | [p1, p2, p3], hst, hck, hdg, kk =>
      have hck : (TBw p1 (.methodLink own ix objectInit) && TBw p2 (.instanceMethod objectInit) && TBw p3 (.code objectInit ⟨#[0xb1]⟩ 1 none)) = true := hck
      simp only [Bool.and_eq_true] at hck
      change obin h st = some q at hst
      unfold obin at hst
      split at hst
      · next a r _ =>
        split at hst
        · next h0 =>
          cases hst
          show W p l e R s m args below meth c H locs cells slots Q (F0 m pc LS (tr g (.ref a) :: trs g r))
          rw [tr_ref h0.1]
          refine W.objInit hx hb hown (hts _ (TBw_in hck.1.1)) (hts _ (TBw_in hck.1.2)) (hts _ (TBw_in hck.2)) rfl hml.symm rfl hdg hfr ?_ (kk.same rfl rfl rl vS)
          show 2 * 0 + ((trs g r).map fun v => v.category).sum + 12 ≤ R.locals
          rw [trs_cat]
          have := h0.2
          omega
        · cases hst
      · cases hst
  | invokestatic ix =>
    match info, hst, hck, hdg, kk with
    | [_], _, hck, _, _ => exact absurd hck (by simp [chk1])
    | [_, _], _, hck, _, _ => exact absurd hck (by simp [chk1])
    | [_, _, _], _, hck, _, _ => exact absurd hck (by simp [chk1])
    | [_, _, _, _], _, hck, _, _ => exact absurd hck (by simp [chk1])
    | _ :: _ :: _ :: _ :: _ :: _ :: _, _, hck, _, _ => exact absurd hck (by simp [chk1])
    | [op, p1, p2, p3, p4], hst, hck, hdg, kk =>
      change math op h st = some q at hst
      unfold math at hst
      split at hst
      · next y x r _ =>
        split at hst
        · next h0 =>
          have hr : ((List.map (tr g) r).map fun v => v.category).sum ≤ 8 := by have e9 := trs_cat g r; unfold trs at e9; rw [e9]; exact h0
          split at hst
          · next ho =>
            subst ho
            cases hst
            have hck : (TBw p1 (.methodLink own ix Lib.Math.max.name) && TBw p2 (.static Lib.Math.max.name) && TBw p3 (.initialized "java/lang/Math") && TBw p4 (.code Lib.Math.max.name Lib.Math.max.code 2 (some .int))) = true := hck
            simp only [Bool.and_eq_true] at hck
            exact va_mmax hx hb hml hown (hts _ (TBw_in hck.1.1.1)) (hts _ (TBw_in hck.1.1.2)) (hts _ (TBw_in hck.1.2)) (hts _ (TBw_in hck.2)) hfr (by omega) (by omega) (by omega) hdg (kk.same rfl rfl rl vS)
          · split at hst
            · next ho =>
              subst ho
              cases hst
              have hck : (TBw p1 (.methodLink own ix Lib.Math.min.name) && TBw p2 (.static Lib.Math.min.name) && TBw p3 (.initialized "java/lang/Math") && TBw p4 (.code Lib.Math.min.name Lib.Math.min.code 2 (some .int))) = true := hck
              simp only [Bool.and_eq_true] at hck
              exact va_mmin hx hb hml hown (hts _ (TBw_in hck.1.1.1)) (hts _ (TBw_in hck.1.1.2)) (hts _ (TBw_in hck.1.2)) (hts _ (TBw_in hck.2)) hfr (by omega) (by omega) (by omega) hdg (kk.same rfl rfl rl vS)
            · cases hst
        · cases hst
      · next y x r _ =>
        split at hst
        · next h0 =>
          have hr : ((List.map (tr g) r).map fun v => v.category).sum ≤ 8 := by have e9 := trs_cat g r; unfold trs at e9; rw [e9]; exact h0.1
          have ho := h0.2
          subst ho
          cases hst
          have hck : (TBw p1 (.methodLink own ix Lib.MathLoose.min_long.x) && TBw p2 (.static Lib.MathLoose.min_long.x) && TBw p3 (.initialized "java/lang/Math") && TBw p4 (.code Lib.MathLoose.min_long.x Lib.MathLoose.min_long.code 4 (some .long))) = true := hck
          simp only [Bool.and_eq_true] at hck
          exact va_mmin_long hx hb hml hown (hts _ (TBw_in hck.1.1.1)) (hts _ (TBw_in hck.1.1.2)) (hts _ (TBw_in hck.1.2)) (hts _ (TBw_in hck.2)) hfr (by omega) (by omega) (by omega) hdg (kk.same rfl rfl rl vS)
        · cases hst
      · cases hst
  | _ => cases hst
end SimH2

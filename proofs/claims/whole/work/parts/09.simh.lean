/-! ===== a step on the heap ===== -/
section SimH
variable {p : Program} {l : Launch} {e : Env} {R : Room} {s : State} {m : MethodId} {args : Array Value} {below : List Frame} {meth : Method} {c : Code} {H : Heap} {locs : List Loc} {cells slots : Nat} {Q : State → Prop}
variable {cc : ByteArray} {own nm : String} {pc : Nat} {LS : Array Slot} {info : List Nat} {rest : List Value} {D : va_G} {tys : List (ClassId × FieldType)}
theorem ob_get (hx : p.tables.exec = Jvm.exec) (hb : c.code = cc) (hts : ∀ w ∈ TB, w.before args s = true) (hown : s.vm.findClass own = some m.cls) (hK : va_K D vwCl tys s) {ci k q ix : Nat} {z : vw_C} {V : Nat → Value} (hc : vwCl[ci]? = some z) (hob : t_OB q (D.1 ci) z.2.2 (D.2 ci) H V) (hk : k < z.2.2)
    (hlink : (Cond.fieldLink own ix (z.2.1 k).1 (z.2.1 k).2.1 (z.2.1 k).2.2.1).before args s = true) (hdg : decode cc pc = .ok (.getfield ix, 3))
    (kk : W p l e R s m args below meth c H locs cells slots Q (F0 m (pc + 3) LS (V k :: rest))) : W p l e R s m args below meth c H locs cells slots Q (F0 m pc LS (.ref q :: rest)) := by
  obtain ⟨ty, hin, -, -, -⟩ := cls_ok hc
  obtain ⟨cell, q1, q2, q3, q4⟩ := hob
  obtain ⟨hSl, hfc, kC, hkC, hkind⟩ := hK.1 ci _ hc
  obtain ⟨cf, kf, fi, f, hi, hsl⟩ := hSl k hk
  exact W.getf hx hb hown hlink hi (u_facts hfc hkC (u_lays hts hin hk) hi).1 q1 (by rw [q3]; exact fun h => by cases h) (v := V k) (by rw [hsl, q4 k hk]) rfl rfl hdg kk
theorem ob_put (hx : p.tables.exec = Jvm.exec) (hb : c.code = cc) (hts : ∀ w ∈ TB, w.before args s = true) (hown : s.vm.findClass own = some m.cls) (hK : va_K D vwCl tys s) {ci k q ix : Nat} {z : vw_C} {V : Nat → Value} {ty : Nat → FieldType} (hc : vwCl[ci]? = some z) (hcl : ClsOK z.1 z.2.1 z.2.2 ty) (hob : t_OB q (D.1 ci) z.2.2 (D.2 ci) H V) (hk : k < z.2.2)
    (hlink : (Cond.fieldLink own ix (z.2.1 k).1 (z.2.1 k).2.1 (z.2.1 k).2.2.1).before args s = true) (hfin : (z.2.1 k).2.2.2 = false ∨ ((z.2.1 k).2.2.2 = true ∧ (z.2.1 k).1 = own ∧ meth.name = "<init>")) {v : Value} (hn : narrow (ty k) v = v) (hfit : fits (ty k) v = true) (hdg : decode cc pc = .ok (.putfield ix, 3))
    (kk : ∀ H1 : Heap, t_OB q (D.1 ci) z.2.2 (D.2 ci) H1 (updV V k v) → H1.size = H.size → (∀ x, x ≠ q → H1[x]? = H[x]?) → W p l e R s m args below meth c H1 (locs ++ [⟨q, D.2 ci k⟩]) cells slots Q (F0 m (pc + 3) LS rest)) : W p l e R s m args below meth c H locs cells slots Q (F0 m pc LS (v :: .ref q :: rest)) := by
  obtain ⟨hin, hty, hnm, -⟩ := hcl
  have hap := va_apart (own := own) hts hin ty hty hnm hK hc
  obtain ⟨cell, q1, q2, q3, q4⟩ := hob
  obtain ⟨hSl, hfc, kC, hkC, hkind⟩ := hK.1 ci _ hc
  obtain ⟨cf, kf, fi, f, hi, hsl⟩ := hSl k hk
  have hlay := hts _ (hin _ (u_in_lay hk))
  unfold u_lay at hlay
  have hst := (u_facts hfc hkC (u_lays hts hin hk) hi).1
  rcases hfin with hfin | ⟨hfin, hdecl, hin2⟩
  · rw [if_neg (by rw [hfin]; decide)] at hlay
    have h6 := u_store hfc hkC hkind hlay hi (hty k hk) hn hfit
    refine W.putK hx hb (f := f) ⟨hown, hlink, ⟨_, _, _, hi⟩, hst⟩ (by rw [q2]; exact h6) q1 q3 (by rw [hsl]; exact k2_hasslot (q4 k hk)) rfl rfl hdg fun H' e1 e2 e3 => ?_
    rw [hsl] at e1 ⊢
    exact kk H' ⟨_, e1, q2, q3, t_set q4 hap hk v⟩ e2 e3
  · rw [if_pos hfin] at hlay
    have hcf : m.cls = cf := by
      obtain ⟨_, _, c', _, _, _, -, -, hf', -, -, -, hown2, -⟩ := Cond.laysFinal_spec hlay
      have e1 : c' = cf := by have := hi.symm.trans hf'; simp at this; exact this.1.symm
      rw [hdecl] at hown2
      rw [← e1]; exact Option.some.inj (hown.symm.trans hown2)
    have h6 := u_fits hfc hkC hkind (Or.inr hlay) hi (hty k hk) hn hfit
    refine W.putFinK hx hb hown hlink hi hst hcf hin2 (by rw [q2]; exact h6) q1 q3 (by rw [hsl]; exact k2_hasslot (q4 k hk)) rfl rfl hdg fun H' e1 e2 e3 => ?_
    rw [hsl] at e1 ⊢
    exact kk H' ⟨_, e1, q2, q3, t_set q4 hap hk v⟩ e2 e3
theorem vwCl_lt {ci : Nat} {z : vw_C} (h : vwCl[ci]? = some z) : ci < 13 := (List.getElem?_eq_some_iff.mp h).1
/-- a cell of a class behind a store -/
theorem Cel_put {g : GG} {h h1 : AH} {a ci k : Nat} {z : vw_C} {v : Value} {H1 : Heap} (hc : vwCl[ci]? = some z) (ht : hT h a = ci + 1) (eT : hT h1 a = hT h a) (hob : t_OB (ro g a) ((gD g).1 ci) z.2.2 ((gD g).2 ci) H1 (updV (fval g h a ci) k v))
    (hv : ∀ j, updV (fval g h a ci) k v j = fval g h1 a ci j) : Cel g h1 a H1 := by
  have hl := vwCl_lt hc
  refine ⟨fun ci' q' hv' ht' => ?_, fun q => ?_, fun q => ?_, fun q => ?_, fun q => ?_⟩
  · have e : ci' = ci := by rw [eT, ht] at ht'; omega
    subst e
    cases hc.symm.trans hv'
    exact hob.to (fun j _ => hv j)
  all_goals (rw [eT, ht] at q; omega)
theorem up2_ne {α : Type} {f : Nat → Nat → α} {a k x : Nat} {v : α} (h : x ≠ a) : up2 f a k v x = f x := by simp [up2, h]
theorem up2_eq {α : Type} {f : Nat → Nat → α} {a k : Nat} {v : α} : up2 f a k v a = fun y => if y = k then v else f a y := by simp [up2]
/-- an array behind a store of an int -/
theorem Cel_ast {g : GG} {h : AH} {a j t : Nat} {x : Int32} {H1 : Heap} {cA : ClassId} (ht : hT h a = t) (htt : (t = 100 ∧ cA = gI g) ∨ (t = 101 ∧ cA = gB g) ∨ (t = 102 ∧ cA = gZ g)) (e1 : H1[ro g a]? = some (arrV cA (hL h a) (updV (fun i => .int (hI h a i)) j (.int x)))) : Cel g (sI h a j x) a H1 := by
  have e2 : updV (fun i => Value.int (hI h a i)) j (.int x) = fun i => .int (hI (sI h a j x) a i) := by
    funext i
    show _ = Value.int (up2 (hI h) a j x a i)
    rw [up2_eq]
    simp only [updV]
    split <;> rfl
  rw [e2] at e1
  have eT : hT (sI h a j x) a = t := ht
  refine ⟨fun ci q hv h9 => ?_, fun h9 => ?_, fun h9 => ?_, fun h9 => ?_, fun h9 => ?_⟩
  · have := vwCl_lt hv
    rw [eT] at h9
    omega
  · rw [eT] at h9; rcases htt with ⟨_, rfl⟩ | ⟨_, rfl⟩ | ⟨_, rfl⟩ <;> first | exact e1 | omega
  · rw [eT] at h9; rcases htt with ⟨_, rfl⟩ | ⟨_, rfl⟩ | ⟨_, rfl⟩ <;> first | exact e1 | omega
  · rw [eT] at h9; rcases htt with ⟨_, rfl⟩ | ⟨_, rfl⟩ | ⟨_, rfl⟩ <;> first | exact e1 | omega
  · rw [eT] at h9; omega
theorem Cel_astJ {g : GG} {h : AH} {a j : Nat} {x : Int64} {H1 : Heap} (ht : hT h a = 103) (e1 : H1[ro g a]? = some (arrV (gJ g) (hL h a) (updV (fun i => .long (hJ h a i)) j (.long x)))) : Cel g (sJ h a j x) a H1 := by
  have e2 : updV (fun i => Value.long (hJ h a i)) j (.long x) = fun i => .long (hJ (sJ h a j x) a i) := by
    funext i
    show _ = Value.long (up2 (hJ h) a j x a i)
    rw [up2_eq]
    simp only [updV]
    split <;> rfl
  rw [e2] at e1
  have eT : hT (sJ h a j x) a = 103 := ht
  refine ⟨fun ci q hv h9 => ?_, fun h9 => ?_, fun h9 => ?_, fun h9 => ?_, fun _ => e1⟩
  · have := vwCl_lt hv
    rw [eT] at h9
    omega
  all_goals (rw [eT] at h9; omega)
theorem Rl.sI {g : GG} {h : AH} {H H1 : Heap} {a k : Nat} {x : Int32} (rl : Rl g h H) (h2 : 2 ≤ a) (z : H1.size = H.size) (oq : ∀ q, q ≠ ro g a → H1[q]? = H[q]?) (hc : Cel g (sI h a k x) a H1) : Rl g (sI h a k x) H1 :=
  rl.upd h2 rfl rfl rfl (fun y hy => up2_ne hy) (fun _ _ => rfl) (fun _ _ => rfl) z oq hc
theorem Rl.sJ {g : GG} {h : AH} {H H1 : Heap} {a k : Nat} {x : Int64} (rl : Rl g h H) (h2 : 2 ≤ a) (z : H1.size = H.size) (oq : ∀ q, q ≠ ro g a → H1[q]? = H[q]?) (hc : Cel g (sJ h a k x) a H1) : Rl g (sJ h a k x) H1 :=
  rl.upd h2 rfl rfl rfl (fun _ _ => rfl) (fun y hy => up2_ne hy) (fun _ _ => rfl) z oq hc
theorem Rl.sR {g : GG} {h : AH} {H H1 : Heap} {a k : Nat} {x : Nat} (rl : Rl g h H) (h2 : 2 ≤ a) (z : H1.size = H.size) (oq : ∀ q, q ≠ ro g a → H1[q]? = H[q]?) (hc : Cel g (sR h a k x) a H1) : Rl g (sR h a k x) H1 :=
  rl.upd h2 rfl rfl rfl (fun _ _ => rfl) (fun _ _ => rfl) (fun y hy => up2_ne hy) z oq hc
theorem fval_sI {g : GG} {h : AH} {a ci k : Nat} {x : Int32} (hk : fk ci k ≠ 1 ∧ fk ci k ≠ 2) (j : Nat) : updV (fval g h a ci) k (.int x) j = fval g (sI h a k x) a ci j := by
  have e : hI (sI h a k x) a j = if j = k then x else hI h a j := by show up2 _ _ _ _ _ _ = _; rw [up2_eq]
  by_cases hj : j = k
  · subst hj
    simp [updV, fval, hk.1, hk.2, e]
  · simp only [updV, fval, e, if_neg hj]
    rfl
theorem fval_sJ {g : GG} {h : AH} {a ci k : Nat} {x : Int64} (hk : fk ci k = 1) (j : Nat) : updV (fval g h a ci) k (.long x) j = fval g (sJ h a k x) a ci j := by
  have e : hJ (sJ h a k x) a j = if j = k then x else hJ h a j := by show up2 _ _ _ _ _ _ = _; rw [up2_eq]
  by_cases hj : j = k
  · subst hj
    simp [updV, fval, hk, e]
  · simp only [updV, fval, e, if_neg hj]
    rfl
theorem fval_sR {g : GG} {h : AH} {a ci k : Nat} {x : Nat} (hk : fk ci k = 2) (j : Nat) : updV (fval g h a ci) k (tr g (.ref x)) j = fval g (sR h a k x) a ci j := by
  have e : hR (sR h a k x) a j = if j = k then x else hR h a j := by show up2 _ _ _ _ _ _ = _; rw [up2_eq]
  by_cases hj : j = k
  · subst hj
    simp [updV, fval, hk, e]
  · simp only [updV, fval, e, if_neg hj]
    rfl
theorem tys4_I (g : GG) : (tys4 g)[0]? = some (gI g, .int) := rfl
theorem tys4_B (g : GG) : (tys4 g)[1]? = some (gB g, .byte) := rfl
theorem tys4_Z (g : GG) : (tys4 g)[2]? = some (gZ g, .boolean) := rfl
theorem tys4_J (g : GG) : (tys4 g)[3]? = some (gJ g, .long) := rfl
theorem inb_arr {i : Int32} {n : Nat} {cA : ClassId} {f : Nat → Value} (h : inb i n = true) : ¬ (i < 0 ∨ (arrV cA n f).slots.size ≤ i.toNatClampNeg) := by
  rw [arrV_size]
  exact inb_in h
theorem inb_lt {i : Int32} {n : Nat} (h : inb i n = true) : i.toNatClampNeg < n := by
  simp only [inb, Bool.and_eq_true, decide_eq_true_eq] at h
  exact h.2
/-- what a step on the heap leaves open: the goal behind it -/
def KH (p : Program) (l : Launch) (e : Env) (R : Room) (s : State) (m : MethodId) (args : Array Value) (below : List Frame) (meth : Method) (c : Code) (cells slots : Nat) (Q : State → Prop) (g : GG) (h h1 : AH) (pc1 : Nat) (LS : Array Slot) (st' : List Value) : Prop :=
  ∀ (H1 : Heap) (locs1 : List Loc), Rl g h1 H1 → va_S (gA g) s.heap H1 locs1 → W p l e R s m args below meth c H1 locs1 (cells + (hN h1 - hN h)) (slots + (hS h1 - hS h)) Q (F0 m pc1 LS (trs g st'))
theorem KH.same {g : GG} {h h1 : AH} {pc1 : Nat} {st' : List Value} (k : KH p l e R s m args below meth c cells slots Q g h h1 pc1 LS st') (e1 : hN h1 = hN h) (e2 : hS h1 = hS h) {H1 : Heap} {locs1 : List Loc} (rl : Rl g h1 H1) (vS : va_S (gA g) s.heap H1 locs1) : W p l e R s m args below meth c H1 locs1 cells slots Q (F0 m pc1 LS (trs g st')) := by
  have h9 := k H1 locs1 rl vS
  rw [e1, e2, Nat.sub_self, Nat.sub_self] at h9
  exact h9
theorem sim_getf {g : GG} {h : AH} {st : List Value} {q : HSt} {ci k kd pl ix : Nat} (hx : p.tables.exec = Jvm.exec) (hb : c.code = cc) (hts : ∀ w ∈ TB, w.before args s = true) (hown : s.vm.findClass own = some m.cls) (hK : Rk g s) (hdg : decode cc pc = .ok (.getfield ix, 3)) (hck : chkG own ix [ci, k, kd, pl] = true) (vS : va_S (gA g) s.heap H locs) (rl : Rl g h H)
    (hst : getf ci k kd h st = some q) (kk : KH p l e R s m args below meth c cells slots Q g h q.2 (pc + 3) LS q.1) : W p l e R s m args below meth c H locs cells slots Q (F0 m pc LS (trs g st)) := by
  unfold getf at hst
  split at hst
  · next a r =>
    split at hst
    · next ht =>
      cases hst
      unfold chkG at hck
      dsimp only at hck
      cases hz : vwCl[ci]? with
      | none => rw [hz] at hck; cases hck
      | some z =>
        rw [hz] at hck
        simp only [Bool.and_eq_true, decide_eq_true_eq] at hck
        obtain ⟨⟨h1, h2⟩, h3⟩ := hck
        have hl13 := vwCl_lt hz
        have hlv := rl.live (a := a) (by rw [ht]; omega) (by rw [ht]; omega)
        have hob := (rl.2.2.1 a hlv.1 hlv.2).1 ci z hz ht
        have hfk : fk ci k = kd := by unfold fk; rw [hz]; exact h2
        show W p l e R s m args below meth c H locs cells slots Q (F0 m pc LS (tr g (.ref a) :: trs g r))
        rw [tr_ref (by omega)]
        refine ob_get hx hb hts hown hK.1 hz hob h1 (hts _ (TBw_in h3)) hdg ?_
        have h9 := kk.same rfl rfl rl vS
        have e9 : trs g ((if kd = 1 then Value.long (hJ h a k) else if kd = 2 then Value.ref (hR h a k) else Value.int (hI h a k)) :: r) = fval g h a ci k :: trs g r := by
          show tr g _ :: trs g r = _
          congr 1
          unfold fval
          rw [hfk]
          split
          · rfl
          · split <;> rfl
        dsimp only at h9
        rw [e9] at h9
        exact h9
    · cases hst
  · cases hst
theorem sim_putf {g : GG} {h : AH} {st : List Value} {q : HSt} {ci k kd fin pl ix : Nat} (hx : p.tables.exec = Jvm.exec) (hb : c.code = cc) (hts : ∀ w ∈ TB, w.before args s = true) (hown : s.vm.findClass own = some m.cls) (hK : Rk g s) (hnm : nm = "<init>" → meth.name = "<init>") (hdg : decode cc pc = .ok (.putfield ix, 3)) (hck : chkP own nm ix [ci, k, kd, fin, pl] = true) (vS : va_S (gA g) s.heap H locs) (rl : Rl g h H)
    (hst : putf ci k kd h st = some q) (kk : KH p l e R s m args below meth c cells slots Q g h q.2 (pc + 3) LS q.1) : W p l e R s m args below meth c H locs cells slots Q (F0 m pc LS (trs g st)) := by
  unfold chkP at hck
  dsimp only at hck
  cases hz : vwCl[ci]? with
  | none => rw [hz] at hck; cases hck
  | some z =>
    rw [hz] at hck
    simp only [Bool.and_eq_true, Bool.or_eq_true, decide_eq_true_eq] at hck
    obtain ⟨⟨⟨h1, h2⟩, h3⟩, h4⟩ := hck
    have hl13 := vwCl_lt hz
    have hfk : fk ci k = kd := by unfold fk; rw [hz]; exact h2
    have hfin : (z.2.1 k).2.2.2 = false ∨ ((z.2.1 k).2.2.2 = true ∧ (z.2.1 k).1 = own ∧ meth.name = "<init>") := by
      rcases h4 with h4 | h4
      · exact Or.inl h4.2
      · exact Or.inr ⟨h4.1.1, h4.1.2, hnm h4.2⟩
    obtain ⟨ty, hcl⟩ := cls_ok hz
    have hkd := hcl.2.2.2 k h1
    rw [h2] at hkd
    have core : ∀ (a : Nat) (v : Value) (r : List Value) (h1' : AH), hT h a = ci + 1 → narrow (ty k) (tr g v) = tr g v → fits (ty k) (tr g v) = true → hT h1' a = hT h a → (∀ j, updV (fval g h a ci) k (tr g v) j = fval g h1' a ci j) → (∀ H1 : Heap, 2 ≤ a → H1.size = H.size → (∀ q, q ≠ ro g a → H1[q]? = H[q]?) → Cel g h1' a H1 → Rl g h1' H1) →
        hN h1' = hN h → hS h1' = hS h → KH p l e R s m args below meth c cells slots Q g h h1' (pc + 3) LS r → W p l e R s m args below meth c H locs cells slots Q (F0 m pc LS (trs g (v :: .ref a :: r))) := by
      intro a v r h1' ht hn hfit eT hfv hRl eN eS kk
      have hlv := rl.live (a := a) (by rw [ht]; omega) (by rw [ht]; omega)
      have hob := (rl.2.2.1 a hlv.1 hlv.2).1 ci z hz ht
      show W p l e R s m args below meth c H locs cells slots Q (F0 m pc LS (tr g v :: tr g (.ref a) :: trs g r))
      rw [tr_ref (by omega)]
      refine ob_put hx hb hts hown hK.1 hz hcl hob h1 (hts _ (TBw_in h3)) hfin hn hfit hdg fun H1 o1 o2 o3 => ?_
      exact kk.same eN eS (hRl H1 hlv.1 o2 o3 (Cel_put hz ht eT o1 hfv)) (vS.put o2 o3 (ro_ge hlv.1))
    unfold putf at hst
    split at hst
    · next x a r =>
      split at hst
      · next hc =>
        cases hst
        refine core a (.int x) r (sI h a k x) hc.1 ?_ ?_ rfl (fval_sI (by rw [hfk]; omega)) (fun H1 h2' z1 o1 c1 => rl.sI h2' z1 o1 c1) rfl rfl kk
        · rcases hkd with ⟨_, hy⟩ | ⟨hy0, _⟩ | ⟨_, hy⟩ | ⟨hy0, _⟩
          · rw [hy]; rfl
          · omega
          · rw [hy]
            rcases hc.2 with q0 | ⟨_, q0⟩
            · omega
            · rcases q0 with rfl | rfl <;> rfl
          · omega
        · rcases hkd with ⟨_, hy⟩ | ⟨hy0, _⟩ | ⟨_, hy⟩ | ⟨hy0, _⟩
          · rw [hy]; rfl
          · omega
          · rw [hy]
            rcases hc.2 with q0 | ⟨_, q0⟩
            · omega
            · rcases q0 with rfl | rfl <;> rfl
          · omega
      · cases hst
    · next x a r =>
      split at hst
      · next hc =>
        cases hst
        refine core a (.long x) r (sJ h a k x) hc.1 ?_ ?_ rfl (fval_sJ (by rw [hfk]; exact hc.2)) (fun H1 h2' z1 o1 c1 => rl.sJ h2' z1 o1 c1) rfl rfl kk
        · rcases hkd with ⟨hy0, _⟩ | ⟨_, hy⟩ | ⟨hy0, _⟩ | ⟨hy0, _⟩ <;> first | omega | (rw [hy]; rfl)
        · rcases hkd with ⟨hy0, _⟩ | ⟨_, hy⟩ | ⟨hy0, _⟩ | ⟨hy0, _⟩ <;> first | omega | (rw [hy]; rfl)
      · cases hst
    · next x a r =>
      split at hst
      · next hc =>
        cases hst
        have hrt : isRT (ty k) = true := by
          rcases hkd with ⟨hy0, _⟩ | ⟨hy0, _⟩ | ⟨hy0, _⟩ | ⟨_, hy⟩ <;> first | omega | exact hy
        refine core a (.ref x) r (sR h a k x) hc.1 ?_ ?_ rfl (fval_sR (by rw [hfk]; exact hc.2)) (fun H1 h2' z1 o1 c1 => rl.sR h2' z1 o1 c1) rfl rfl kk
        · by_cases h0 : x = 0
          · subst h0
            cases hty : ty k <;> rw [hty] at hrt <;> first | rfl | cases hrt
          · rw [tr_ref h0]
            cases hty : ty k <;> rw [hty] at hrt <;> first | rfl | cases hrt
        · by_cases h0 : x = 0
          · subst h0
            cases hty : ty k <;> rw [hty] at hrt <;> first | rfl | cases hrt
          · rw [tr_ref h0]
            cases hty : ty k <;> rw [hty] at hrt <;> first | rfl | cases hrt
      · cases hst
    · cases hst
theorem Rl.scr {g : GG} {h : AH} {H : Heap} (rl : Rl g h H) {a : Nat} (ht : hT h a = 110) : a = 1 := by
  rcases Nat.lt_or_ge a 2 with q | q
  · rcases (show a = 0 ∨ a = 1 by omega) with rfl | rfl
    · rw [rl.2.2.2.2.1] at ht; cases ht
    · rfl
  · exact absurd ht (rl.2.2.2.2.2.2.2.2 a q)
theorem ne0_of {a : Nat} (h : 2 ≤ a) : a ≠ 0 := by omega
theorem sim_ald {g : GG} {h : AH} {a : Nat} {i : Int32} {r : List Value} (hK : Rk g s) (vS : va_S (gA g) s.heap H locs) (rl : Rl g h H) (hx : p.tables.exec = Jvm.exec) (hb : c.code = cc) (hin : inb i (hL h a) = true) :
    (hT h a = 100 → decode cc pc = .ok (.iaload, 1) → W p l e R s m args below meth c H locs cells slots Q (F0 m (pc + 1) LS (.int (hI h a i.toNatClampNeg) :: trs g r)) → W p l e R s m args below meth c H locs cells slots Q (F0 m pc LS (trs g (.int i :: .ref a :: r)))) ∧
    (hT h a = 110 → decode cc pc = .ok (.iaload, 1) → W p l e R s m args below meth c H locs cells slots Q (F0 m (pc + 1) LS (.int (hI h a i.toNatClampNeg) :: trs g r)) → W p l e R s m args below meth c H locs cells slots Q (F0 m pc LS (trs g (.int i :: .ref a :: r)))) ∧
    (hT h a = 101 → decode cc pc = .ok (.baload, 1) → W p l e R s m args below meth c H locs cells slots Q (F0 m (pc + 1) LS (.int (hI h a i.toNatClampNeg) :: trs g r)) → W p l e R s m args below meth c H locs cells slots Q (F0 m pc LS (trs g (.int i :: .ref a :: r)))) ∧
    (hT h a = 102 → decode cc pc = .ok (.baload, 1) → W p l e R s m args below meth c H locs cells slots Q (F0 m (pc + 1) LS (.int (hI h a i.toNatClampNeg) :: trs g r)) → W p l e R s m args below meth c H locs cells slots Q (F0 m pc LS (trs g (.int i :: .ref a :: r)))) ∧
    (hT h a = 103 → decode cc pc = .ok (.laload, 1) → W p l e R s m args below meth c H locs cells slots Q (F0 m (pc + 1) LS (.long (hJ h a i.toNatClampNeg) :: trs g r)) → W p l e R s m args below meth c H locs cells slots Q (F0 m pc LS (trs g (.int i :: .ref a :: r)))) := by
  refine ⟨fun ht hdg k => ?_, fun ht hdg k => ?_, fun ht hdg k => ?_, fun ht hdg k => ?_, fun ht hdg k => ?_⟩
  · have hlv := rl.live (a := a) (by rw [ht]; decide) (by rw [ht]; decide)
    have hcell := (rl.2.2.1 a hlv.1 hlv.2).2.1 ht
    show W p l e R s m args below meth c H locs cells slots Q (F0 m pc LS (.int i :: tr g (.ref a) :: trs g r))
    rw [tr_ref (by omega)]
    exact W.iald (v := .int (hI h a i.toNatClampNeg)) hx hb hcell ((hK.1.2 0 _ (tys4_I g)).1 _ _) (fun q => by cases q) (inb_arr hin) (arrV_read _ _ (inb_lt hin)) rfl rfl hdg k
  · have ha : a = 1 := by
      rcases Nat.lt_or_ge a 2 with q | q
      · rcases (show a = 0 ∨ a = 1 by omega) with rfl | rfl
        · rw [rl.2.2.2.2.1] at ht; cases ht
        · rfl
      · exact absurd ht (rl.2.2.2.2.2.2.2.2 a q)
    subst ha
    obtain ⟨-, -, -, -, -, -, e7, e8, -⟩ := rl
    rw [e7] at hin
    rw [e8] at k
    show W p l e R s m args below meth c H locs cells slots Q (F0 m pc LS (.int i :: tr g (.ref 1) :: trs g r))
    rw [tr_ref (by decide)]
    exact va_sld hx hb hK.2.2.1 (Nat.lt_of_lt_of_le hK.2.2.2.1 hK.2.2.2.2) (Nat.not_le.mpr hK.2.2.2.1) vS (inb_in hin) hdg k
  · have hlv := rl.live (a := a) (by rw [ht]; decide) (by rw [ht]; decide)
    have hcell := (rl.2.2.1 a hlv.1 hlv.2).2.2.1 ht
    show W p l e R s m args below meth c H locs cells slots Q (F0 m pc LS (.int i :: tr g (.ref a) :: trs g r))
    rw [tr_ref (by omega)]
    exact W.bald (v := .int (hI h a i.toNatClampNeg)) hx hb hcell ((hK.1.2 1 _ (tys4_B g)).1 _ _) (fun q => by cases q) (inb_arr hin) (arrV_read _ _ (inb_lt hin)) rfl rfl hdg k
  · have hlv := rl.live (a := a) (by rw [ht]; decide) (by rw [ht]; decide)
    have hcell := (rl.2.2.1 a hlv.1 hlv.2).2.2.2.1 ht
    show W p l e R s m args below meth c H locs cells slots Q (F0 m pc LS (.int i :: tr g (.ref a) :: trs g r))
    rw [tr_ref (by omega)]
    exact W.zald (v := .int (hI h a i.toNatClampNeg)) hx hb hcell ((hK.1.2 2 _ (tys4_Z g)).1 _ _) (fun q => by cases q) (inb_arr hin) (arrV_read _ _ (inb_lt hin)) rfl rfl hdg k
  · have hlv := rl.live (a := a) (by rw [ht]; decide) (by rw [ht]; decide)
    have hcell := (rl.2.2.1 a hlv.1 hlv.2).2.2.2.2 ht
    show W p l e R s m args below meth c H locs cells slots Q (F0 m pc LS (.int i :: tr g (.ref a) :: trs g r))
    rw [tr_ref (by omega)]
    exact W.lald (v := .long (hJ h a i.toNatClampNeg)) hx hb hcell ((hK.1.2 3 _ (tys4_J g)).1 _ _) (fun q => by cases q) (inb_arr hin) (arrV_read _ _ (inb_lt hin)) rfl rfl hdg k
end SimH

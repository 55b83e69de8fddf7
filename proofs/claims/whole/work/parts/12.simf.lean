/-! ===== whole runs ===== -/
theorem ct_ok {c pc : Nat} {i : Instr} {cat : Nat} {info : List Nat} {e9 : MInfo} (hc : ct c pc = some (i, cat, info)) (hm : mi c = some e9) : chkE e9.1 e9.2.1 e9.2.2.2.1 e9.2.2.2.2.1 e9.2.2.2.2.2.1 c (pc, i, cat, info) = true := by
  obtain ⟨t, h1, h2⟩ := ct_mem hc
  obtain ⟨e, h3, h4⟩ := LT_ok _ h1
  cases hm.symm.trans h3
  exact List.all_eq_true.mp h4 _ h2
theorem mi_ok {c : Nat} {e9 : MInfo} (hm : mi c = some e9) : okM (c, e9) = true := MI_ok _ (lkM_mem hm)
theorem TB_good : GoodIn TB TB := fun w hw => ⟨hw, good_of_word (List.mem_filter.mp hw).2⟩
theorem GoodIn.code {y : MethodName} {bs : ByteArray} {mx : Nat} {ret : Option FieldType} (h : Cond.code y bs mx ret ∈ TB) : GoodIn TB (Cond.code y bs mx ret :: TB) := fun w hw => by
  rcases List.mem_cons.mp hw with rfl | hw
  · exact TB_good _ h
  · exact TB_good w hw
section Ends
variable {p : Program} {l : Launch} {e : Env} {R : Room} {s : State} {m : MethodId} {args : Array Value} {below : List Frame} {meth : Method} {c : Code} {H : Heap} {locs : List Loc} {cells slots : Nat}
theorem sim_ret {g : GG} {cc : ByteArray} {ret : Option FieldType} {pc : Nat} {LS : Array Slot} {i : Instr} {info : List Nat} {st : List Value} {h' : AH} {r : Option Value} (hx : p.tables.exec = Jvm.exec) (hb : c.code = cc) (hr : meth.sig.returnType = ret) (hlocks : meth.locks = false) (hdg : decode cc pc = .ok (i, ilen i info)) (hck : chk2 ret i info = true) (hst : retv i info h' st = some (r, h')) (rl : Rl g h' H) (vS : va_S (gA g) s.heap H locs) :
    W p l e R s m args below meth c H locs cells slots (MQ below (QcR g r h') args s cells slots (gA g)) (F0 m pc LS (trs g st)) := by
  have hq : ∀ (v : Option Value) (t : State), t.heap = H → s.WarmedH t.vm → v = r.map (tr g) → QcR g r h' args s (.returned v) t := fun v t ht _ hv => ⟨by rw [hv], by rw [ht]; exact rl, vS.F ht⟩
  have hf : ∀ q ∈ locs, gA g q.base := vS.2.2
  unfold retv at hst
  split at hst
  · split at hst
    · next hi =>
      subst hi
      cases hst
      have hck : decide (ret = none) = true := hck
      exact W.vret hx hb (hr.trans (of_decide_eq_true hck)) (fun t h1 h2 => hq _ t h1 h2 rfl) hf hdg hlocks
    · cases hst
  · next x =>
    split at hst
    · next hi =>
      obtain ⟨rfl, hi⟩ := hi
      cases hst
      have hck : ((decide (info = [0]) && decide (ret = some .int)) || (decide (info = [1]) && decide (ret = some .boolean))) = true := hck
      simp only [Bool.or_eq_true, Bool.and_eq_true, decide_eq_true_eq] at hck
      rcases hck with ⟨q1, q2⟩ | ⟨q1, q2⟩
      · exact W.iret hx hb (hr.trans q2) (fun t h1 h2 => hq _ t h1 h2 rfl) hf hdg hlocks
      · have hn : narrow .boolean (.int x) = .int x := by
          rcases hi with z | ⟨_, z⟩
          · rw [q1] at z; cases z
          · rcases z with rfl | rfl <;> rfl
        exact W.zret hx hb (hr.trans q2) hn (fun t h1 h2 => hq _ t h1 h2 rfl) hf hdg hlocks
    · cases hst
  · split at hst
    · next hi =>
      subst hi
      cases hst
      have hck : decide (ret = some .long) = true := hck
      exact W.lret hx hb (hr.trans (of_decide_eq_true hck)) (fun t h1 h2 => hq _ t h1 h2 rfl) hf hdg hlocks
    · cases hst
  · next x =>
    split at hst
    · next hi =>
      subst hi
      cases hst
      have hck : isRefT ret = true := hck
      have hrt : ∃ rt, ret = some rt ∧ ((∃ n, rt = .object n) ∨ ∃ t, rt = .array t) := by
        unfold isRefT at hck
        split at hck
        · exact ⟨_, rfl, Or.inl ⟨_, rfl⟩⟩
        · exact ⟨_, rfl, Or.inr ⟨_, rfl⟩⟩
        · cases hck
      obtain ⟨rt, h1, h2⟩ := hrt
      have hv : tr g (.ref x) = .null ∨ ∃ a, tr g (.ref x) = .ref a := by
        by_cases h0 : x = 0
        · subst h0; exact Or.inl rfl
        · exact Or.inr ⟨_, tr_ref h0⟩
      exact W.aret hx hb (hr.trans h1) h2 hv (fun t h1 h2 => hq _ t h1 h2 rfl) hf hdg hlocks
    · cases hst
  · cases hst
end Ends
/-- a method's contract out of its runs -/
theorem sim_met {g : GG} {l : Launch} {n c : Nat} (IH : ∀ pc ls st h r h', run n c pc ls st h = some (r, h') → SimAt g l c pc ls st h r h') {e9 : MInfo} (hm : mi c = some e9) (hlaw : c ≠ lawC) {av : List Value} {h h' : AH} {r : Option Value} (hrun : run n c 0 (lent av e9.2.2.1) [] h = some (r, h')) (hlen : (lsl av).length ≤ e9.2.2.1) :
    Met l e9.1 (Cond.code e9.1 e9.2.1 e9.2.2.1 e9.2.2.2.1 :: TB) ({ frames := e9.2.2.2.2.1, cells := hN h' - hN h, slots := hS h' - hS h, locals := e9.2.2.2.2.2.1 } : Room) (PcR g av h) (QcR g r h') (hN h' - hN h) (hS h' - hS h) (gA g) := by
  have hok := mi_ok hm
  simp only [okM, Bool.and_eq_true, Bool.or_eq_true, decide_eq_true_eq] at hok
  obtain ⟨⟨hok1, hok2⟩, hok3⟩ := hok
  rcases hok3 with hok3 | hok3
  · exact absurd hok3 hlaw
  obtain ⟨⟨⟨⟨h1, h2⟩, h3⟩, h4⟩, h5⟩ := hok3
  refine Met.ofW (cc := e9.2.1) (maxL := e9.2.2.1) (ret := e9.2.2.2.1) h3 rfl ?_
  intro p e s m args below meth cd s₁ B hml hv
  obtain ⟨rfl, hRl, hRk⟩ := hv
  have hts0 := atoms_spec (ws := Cond.code e9.1 e9.2.1 e9.2.2.1 e9.2.2.2.1 :: TB) B.pre
  have hts : ∀ w ∈ TB, w.before (trs g av).toArray s = true := fun w hw => hts0 w (List.mem_cons_of_mem _ hw)
  have hown : s.vm.findClass e9.1.cls = some m.cls := findClass_of_methodNamed B.named
  have hnm : e9.1.name = "<init>" → meth.name = "<init>" := fun q => by rw [(name_of_methodNamed B.named B.method).1]; exact q
  rw [lg_entry_eq]
  have hX : Cx g c p (headSpec (Cond.code e9.1 e9.2.1 e9.2.2.1 e9.2.2.2.1 :: TB) ({ frames := e9.2.2.2.2.1, cells := hN h' - hN h, slots := hS h' - hS h, locals := e9.2.2.2.2.2.1 } : Room)).room s m (trs g av).toArray meth cd e9 := ⟨hm, B.exec, B.bytes, hml, hown, hts, hRk, Nat.le_refl _, Nat.le_refl _, hnm⟩
  refine IH 0 _ [] h r h' hrun p e _ s m _ below meth cd s.heap [] 0 0 _ _ e9 hX va_S.rf (LH_entry hlen) hRl (by rw [Nat.zero_add]; exact Nat.le_refl _) (by rw [Nat.zero_add]; exact Nat.le_refl _) ?_
  intro H1 locs1 pc1 LS1 i info st1 hc hret hRl1 vS1
  have hck := ct_ok hc hm
  simp only [chkE, Bool.and_eq_true, decide_eq_true_eq] at hck
  rw [Nat.zero_add, Nat.zero_add]
  exact sim_ret B.exec B.bytes B.returns B.notSynchronized hck.1 hck.2 hret hRl1 vS1
section Call
variable {p : Program} {l : Launch} {e : Env} {R : Room} {s : State} {m : MethodId} {args : Array Value} {below : List Frame} {meth : Method} {cd : Code} {H : Heap} {locs : List Loc} {cells slots : Nat} {Q : State → Prop}
/-- a call, its callee's contract being known -/
theorem sim_call {g : GG} {c pc : Nat} {i : Instr} {info : List Nat} {LS : Array Slot} {st av rest : List Value} {h h1 : AH} {r1 : Option Value} {k : Nat} {e9 f9 : MInfo} (hX : Cx g c p R s m args meth cd e9) (hLS : LS.size = e9.2.2.1) (hdg : decode e9.2.1 pc = .ok (i, ilen i info)) (hck : chk3 e9.1.cls e9.2.2.2.2.1 e9.2.2.2.2.2.1 i info = true) (hpop : popc info st h = some (k, av, rest)) (hk : k < 900) (hm : mi k = some f9) (hlaw : k ≠ lawC)
    (hMet : Met l f9.1 (Cond.code f9.1 f9.2.1 f9.2.2.1 f9.2.2.2.1 :: TB) ({ frames := f9.2.2.2.2.1, cells := hN h1 - hN h, slots := hS h1 - hS h, locals := f9.2.2.2.2.2.1 } : Room) (PcR g av h) (QcR g r1 h1) (hN h1 - hN h) (hS h1 - hS h) (gA g)) (vS : va_S (gA g) s.heap H locs) (rl : Rl g h H) (hc : cells + (hN h1 - hN h) ≤ R.cells) (hs : slots + (hS h1 - hS h) ≤ R.slots)
    (kk : ∀ (H1 : Heap) (locs1 : List Loc), Rl g h1 H1 → va_S (gA g) s.heap H1 locs1 → W p l e R s m args below meth cd H1 locs1 (cells + (hN h1 - hN h)) (slots + (hS h1 - hS h)) Q (F0 m (pc + 3) LS (trs g (r1.toList ++ rest)))) : W p l e R s m args below meth cd H locs cells slots Q (F0 m pc LS (trs g st)) := by
  obtain ⟨-, hx, hb, hml, hown, hts, hK, hfr, hlo, -⟩ := hX
  have hok := mi_ok hm
  simp only [okM, Bool.and_eq_true, Bool.or_eq_true, decide_eq_true_eq] at hok
  obtain ⟨-, hok3⟩ := hok
  rcases hok3 with hok3 | hok3
  · exact absurd hok3 hlaw
  obtain ⟨⟨⟨⟨h1', h2'⟩, h3'⟩, h4'⟩, h5'⟩ := hok3
  have hcode := TBw_in h1'
  have hini := hts _ (TBw_in h2')
  match info, hpop, hck, hdg with
  | [k0, n, kd, t, ne, pl, pa, ps], hpop, hck, hdg =>
    unfold popc at hpop
    dsimp only at hpop
    split at hpop
    · next hp =>
      cases hpop
      obtain ⟨hp1, hp2, hp3⟩ := hp
      unfold chk3 at hck
      dsimp only at hck
      rw [if_neg (by omega), hm] at hck
      obtain ⟨y, bs, mx, ret, f', lo', pc', pi'⟩ := f9
      dsimp only at hck hMet hcode hini h4' h5'
      simp only [Bool.and_eq_true, decide_eq_true_eq] at hck
      obtain ⟨⟨hf1, hf2⟩, hck⟩ := hck
      have hR9 : f' + 1 ≤ R.frames ∧ 8 + (mx + 11) + lo' ≤ R.locals := ⟨Nat.le_trans hf1 hfr, Nat.le_trans hf2 hlo⟩
      have hstk : trs g st = (trs g (st.take n).reverse).reverse ++ trs g (st.drop n) := by
        simp only [trs, List.map_reverse, List.reverse_reverse]
        rw [← List.map_append, List.take_append_drop]
      have hroom : 2 * (F0 m pc LS (trs g st)).monitorRoom + ((trs g (st.drop n)).map fun v => v.category).sum ≤ 8 := by
        show 2 * 0 + _ ≤ 8
        rw [trs_cat]
        omega
      have hfix : CallFix p m cd e9.2.1 e9.2.2.1 s args TB e9.1.cls := ⟨hx, hb, hml, hown, hts⟩
      have hpre : ∀ U : State, U.heap = H → s.WarmedH U.vm → PcR g (st.take n).reverse h (trs g (st.take n).reverse).toArray U := fun U hU hW => ⟨rfl, by rw [hU]; exact rl, hK.moved vS hU hW⟩
      have go : ∀ a, va_Run p l e R s m args below meth cd H locs cells slots (hN h1 - hN h) (hS h1 - hS h) (F0 m pc LS (trs g st)) (trs g (st.drop n)) (QcR g r1 h1 a) (gA g) → W p l e R s m args below meth cd H locs cells slots Q (F0 m pc LS (trs g st)) := by
        intro a hrun
        refine call_go hrun vS fun H1 locs1 r1' v1' => ?_
        have h9 := kk H1 locs1 r1' v1'
        have e9' : trs g (r1.toList ++ st.drop n) = (r1.map (tr g)).toList ++ trs g (st.drop n) := by
          cases r1 <;> simp [trs]
        rw [e9'] at h9
        exact h9
      cases i with
      | invokestatic ix =>
        dsimp only at hck
        simp only [Bool.and_eq_true, decide_eq_true_eq] at hck
        obtain ⟨⟨⟨hl9, hk0⟩, hst9⟩, hd9⟩ := hck
        have hn9 : (trs g (st.take n).reverse).length = n := by simp [trs]; omega
        by_cases hne : ne = 0
        · rw [if_pos hne] at hl9
          exact go _ (va_runS hfix hMet ⟨callB_of n hts (GoodIn.code hcode) rfl rfl rfl hini (hts _ (TBw_in hl9)) ⟨h4', h5', hd9⟩ hR9, hts _ (TBw_in hst9)⟩ ⟨PcR_blind _ _ _, hpre⟩ rfl hn9 hLS hstk hroom hdg ⟨hc, hs⟩)
        · rw [if_neg hne] at hl9
          exact go _ (va_runSN hfix hMet ⟨va_cnB n hts (GoodIn.code hcode) rfl rfl rfl (hK.2.1 _ (NWw_in hl9)) hini ⟨h4', h5', hd9⟩ hR9, hts _ (TBw_in hst9), trivial⟩ ⟨PcR_blind _ _ _, hpre⟩ rfl hn9 hLS hstk hroom hdg ⟨hc, hs⟩)
      | invokevirtual ix =>
        dsimp only at hck
        simp only [Bool.and_eq_true, decide_eq_true_eq] at hck
        obtain ⟨⟨⟨⟨⟨hl9, hk0⟩, hin9⟩, hse9⟩, hd9⟩, ht9⟩ := hck
        subst hk0
        generalize hav : (st.take n).reverse = av at *
        match av, hav with
        | [], hav => simp [rcv] at hp3
        | .ref a :: as', hav =>
          have hta : hT h a = t := by simpa [rcv] using hp3
          match t, ht9, hta with
          | 0, ht9, _ => cases ht9
          | ci + 1, ht9, hta =>
            have ht9 := of_decide_eq_true ht9
            cases hz : vwCl[ci]? with
            | none => rw [hz] at ht9; cases ht9
            | some z =>
              rw [hz] at ht9
              have hzc : z.1 = y.cls := Option.some.inj ht9
              have hl13 := vwCl_lt hz
              have hlv := rl.live (a := a) (by rw [hta]; omega) (by rw [hta]; omega)
              have hob := (rl.2.2.1 a hlv.1 hlv.2).1 ci z hz hta
              have ea : tr g (.ref a) = .ref (ro g a) := tr_ref (ne0_of hlv.1)
              have etr : trs g (.ref a :: as') = .ref (ro g a) :: trs g as' := by
                show tr g (.ref a) :: trs g as' = _
                rw [ea]
              rw [etr] at hstk hpre
              have hlen : st.length ≥ n := hp1
              have hn9 : (trs g as').length + 1 = n := by
                have := congrArg List.length hav
                simp at this
                simp [trs]
                omega
              have hd9' : (parseMethodDescriptor y.desc).map (fun d => d.parameters.length) = some (trs g as').length := by
                cases hpd : parseMethodDescriptor y.desc with
                | none => rw [hpd] at hd9; cases hd9
                | some d =>
                  rw [hpd] at hd9
                  have h7 : d.parameters.length + 1 = n := Option.some.inj hd9
                  show some d.parameters.length = some _
                  congr 1
                  omega
              have hstk' : trs g st = (trs g as').reverse ++ .ref (ro g a) :: trs g (st.drop n) := by
                rw [hstk, List.reverse_cons, List.append_assoc]
                rfl
              have hprv : PreV s H y.cls (ro g a) (PcR g (.ref a :: as') h) (trs g as') := by
                refine ⟨PcR_blind _ _ _, ?_, fun U hU hW => hpre U hU hW⟩
                obtain ⟨cell, q1, q2, q3, -⟩ := hob
                exact ⟨cell, q1, by rw [q3]; rfl, by rw [q2, ← hzc]; exact (hK.1.1 ci z hz).2.1⟩
              by_cases hne : ne = 0
              · rw [if_pos hne] at hl9
                exact go _ (va_runV hfix hMet ⟨callB_of _ hts (GoodIn.code hcode) rfl rfl rfl hini (hts _ (TBw_in hl9)) ⟨h4', h5', hd9'⟩ hR9, hts _ (TBw_in hin9), hts _ (TBw_in hse9)⟩ hprv rfl rfl hLS hstk' hroom hdg ⟨hc, hs⟩)
              · rw [if_neg hne] at hl9
                exact go _ (va_runVN hfix hMet ⟨va_cnB _ hts (GoodIn.code hcode) rfl rfl rfl (hK.2.1 _ (NWw_in hl9)) hini ⟨h4', h5', hd9'⟩ hR9, hts _ (TBw_in hin9), hts _ (TBw_in hse9)⟩ hprv rfl rfl hLS hstk' hroom hdg ⟨hc, hs⟩)
        | .int _ :: _, _ => simp [rcv] at hp3
        | .long _ :: _, _ => simp [rcv] at hp3
        | .float _ :: _, _ => simp [rcv] at hp3
        | .double _ :: _, _ => simp [rcv] at hp3
        | .null :: _, _ => simp [rcv] at hp3
        | .retAddr _ :: _, _ => simp [rcv] at hp3
      | invokespecial ix =>
        dsimp only at hck
        simp only [Bool.and_eq_true, decide_eq_true_eq] at hck
        obtain ⟨⟨⟨⟨⟨hl9, hk0⟩, hin9⟩, hd9⟩, hnm9⟩, hret9⟩ := hck
        subst hk0
        subst hret9
        generalize hav : (st.take n).reverse = av at *
        match av, hav with
        | [], hav => simp [rcv] at hp3
        | .ref a :: as', hav =>
          have ha0 : a ≠ 0 := by simpa [rcv] using hp3
          have ea : tr g (.ref a) = .ref (ro g a) := tr_ref ha0
          have etr : trs g (.ref a :: as') = .ref (ro g a) :: trs g as' := by
            show tr g (.ref a) :: trs g as' = _
            rw [ea]
          rw [etr] at hstk hpre
          have hlen : st.length ≥ n := hp1
          have hn9 : (trs g as').length + 1 = n := by
            have := congrArg List.length hav
            simp at this
            simp [trs]
            omega
          have hd9' : (parseMethodDescriptor y.desc).map (fun d => d.parameters.length) = some (trs g as').length := by
            cases hpd : parseMethodDescriptor y.desc with
            | none => rw [hpd] at hd9; cases hd9
            | some d =>
              rw [hpd] at hd9
              have h7 : d.parameters.length + 1 = n := Option.some.inj hd9
              show some d.parameters.length = some _
              congr 1
              omega
          have hstk' : trs g st = (trs g as').reverse ++ .ref (ro g a) :: trs g (st.drop n) := by
            rw [hstk, List.reverse_cons, List.append_assoc]
            rfl
          have hprv : PreS s H (PcR g (.ref a :: as') h) (.ref (ro g a) :: trs g as') := ⟨PcR_blind _ _ _, fun U hU hW => hpre U hU hW⟩
          by_cases hne : ne = 0
          · rw [if_pos hne] at hl9
            exact go _ (va_runI hfix hMet ⟨callB_of _ hts (GoodIn.code hcode) rfl rfl rfl hini (hts _ (TBw_in hl9)) ⟨h4', h5', hd9'⟩ hR9, hnm9, hts _ (TBw_in hin9)⟩ hprv rfl rfl hLS hstk' hroom hdg ⟨hc, hs⟩)
          · rw [if_neg hne] at hl9
            exact go _ (va_runIN hfix hMet ⟨va_cnB _ hts (GoodIn.code hcode) rfl rfl rfl (hK.2.1 _ (NWw_in hl9)) hini ⟨h4', h5', hd9'⟩ hR9, hnm9, hts _ (TBw_in hin9)⟩ hprv rfl rfl hLS hstk' hroom hdg ⟨hc, hs⟩)
        | .int _ :: _, _ => simp [rcv] at hp3
        | .long _ :: _, _ => simp [rcv] at hp3
        | .float _ :: _, _ => simp [rcv] at hp3
        | .double _ :: _, _ => simp [rcv] at hp3
        | .null :: _, _ => simp [rcv] at hp3
        | .retAddr _ :: _, _ => simp [rcv] at hp3
      | _ => cases hck
    · cases hpop
end Call

theorem mi_fr {c : Nat} {e9 : MInfo} (hm : mi c = some e9) : e9.2.2.2.2.1 ≤ 10 := by
  have h : MI.all (fun e => decide (e.2.2.2.2.2.1 ≤ 10)) = true := by decide +kernel
  have h1 := List.all_eq_true.mp h _ (lkM_mem hm)
  exact of_decide_eq_true h1
theorem run_none {n k pc : Nat} {ls st : List Value} {h : AH} (hm : mi k = none) : run n k pc ls st h = none := by
  cases n with
  | zero => rfl
  | succ n =>
    cases hct : ct k pc with
    | none => simp only [run, hct]
    | some x =>
      obtain ⟨t, h1, h2⟩ := ct_mem hct
      obtain ⟨e, h3, h4⟩ := LT_ok _ h1
      rw [hm] at h3
      cases h3
set_option maxRecDepth 100000 in
theorem law_mi : ∃ y b x t lo a d, mi lawC = some (y, b, x, t, 10, lo, a, d) := ⟨_, _, _, _, _, _, _, rfl⟩
theorem sim_nolaw {own : String} {f lo : Nat} {i : Instr} {info : List Nat} {c pc k cat : Nat} {st av rest : List Value} {h : AH} (hct : ct c pc = some (i, cat, info)) (hpop : popc info st h = some (k, av, rest)) (hck : chk3 own f lo i info = true) (hf : f ≤ 10) : k ≠ lawC := by
  intro hk
  subst hk
  match info, hpop, hck with
  | k0 :: n :: kd :: t :: tl, hpop, hck =>
    unfold popc at hpop
    dsimp only at hpop
    split at hpop
    · cases hpop
      match tl, hck with
      | [ne, pl, pa, ps], hck =>
        obtain ⟨y, b, x, t9, lo9, a, d, hm⟩ := law_mi
        unfold chk3 at hck
        dsimp only at hck
        rw [if_neg (by decide), hm] at hck
        simp only [Bool.and_eq_true, decide_eq_true_eq] at hck
        omega
    · cases hpop
/-- THE MACHINE FOLLOWS the abstract one -/
theorem simF (g : GG) (l : Launch) (hP : PrimOK g l) (hM : MacOK g l) : ∀ (n c pc : Nat) (ls st : List Value) (h : AH) (r : Option Value) (h' : AH), run n c pc ls st h = some (r, h') → SimAt g l c pc ls st h r h'
  | 0, _, _, _, _, _, _, _, e => by cases e
  | n + 1, c, pc, ls, st, h, r, h', hrun => by
    have IH := simF g l hP hM n
    intro p e R s m args below meth cd H locs cells slots Q LS e9 hX vS hl rl hc hs hE
    have hX0 := hX
    obtain ⟨hm, hx, hb, hml, hown, hts, hK, hfr, hlo, hnm⟩ := hX
    have hok := mi_ok hm
    simp only [okM, Bool.and_eq_true, decide_eq_true_eq] at hok
    obtain ⟨⟨hok1, hok2⟩, -⟩ := hok
    cases hct : ct c pc with
    | none => simp only [run, hct] at hrun; cases hrun
    | some x =>
      obtain ⟨i, cat, info⟩ := x
      have hck := ct_ok hct hm
      simp only [chkE, Bool.and_eq_true, decide_eq_true_eq] at hck
      obtain ⟨hdg, hck⟩ := hck
      match cat, hct, hck with
      | 0, hct, hck =>
        rw [run_0 hct] at hrun
        cases hst : lstep i info pc ls st with
        | none => rw [hst] at hrun; cases hrun
        | some q =>
          rw [hst] at hrun
          exact simL g hx hb hown hts hdg hck hl hst (fun LS' hl' => IH c _ _ _ _ _ _ hrun p e R s m args below meth cd H locs cells slots Q LS' e9 hX0 vS hl' rl hc hs hE)
      | 1, hct, hck =>
        rw [run_1 hct] at hrun
        cases hst : hstep i info st h with
        | none => rw [hst] at hrun; cases hrun
        | some q =>
          rw [hst] at hrun
          have g1 := hstep_grow hst
          have g2 := run_grow n _ _ _ _ _ _ hrun
          dsimp only at g2
          refine simH hx hb (hml.trans hl.1.symm) hown hts hK hnm (Nat.le_trans hok2 hfr) (Nat.le_trans hok1 hlo) hdg hck vS rl hst (by omega) (by omega) fun H1 locs1 rl1 vS1 => ?_
          refine IH c _ _ _ _ _ _ hrun p e R s m args below meth cd H1 locs1 _ _ Q LS e9 hX0 vS1 hl rl1 (by omega) (by omega) fun H2 locs2 pc2 LS2 i2 info2 st2 q1 q2 q3 q4 => ?_
          have h9 := hE H2 locs2 pc2 LS2 i2 info2 st2 q1 q2 q3 q4
          rw [show cells + (hN q.2 - hN h) + (hN h' - hN q.2) = cells + (hN h' - hN h) by omega, show slots + (hS q.2 - hS h) + (hS h' - hS q.2) = slots + (hS h' - hS h) by omega]
          exact h9
      | 2, hct, hck =>
        rw [run_2 hct] at hrun
        have e1 : h' = h := retv_h hrun
        subst e1
        have h9 := hE H locs pc LS i info st hct hrun rl vS
        rw [Nat.sub_self, Nat.sub_self] at h9
        exact h9
      | 3, hct, hck =>
        rw [run_3 hct] at hrun
        cases hpop : popc info st h with
        | none => rw [hpop] at hrun; cases hrun
        | some q =>
          obtain ⟨k, av, rest⟩ := q
          rw [hpop] at hrun
          simp only [Option.bind_some] at hrun
          cases hz : runM n k av h with
          | none => rw [hz] at hrun; cases hrun
          | some z =>
            rw [hz] at hrun
            obtain ⟨r1, h1⟩ := z
            simp only [Option.bind_some] at hrun
            have g1 := runM_grow hz
            have g2 := run_grow n _ _ _ _ _ _ hrun
            dsimp only at g1 g2
            have kk : ∀ (H1 : Heap) (locs1 : List Loc), Rl g h1 H1 → va_S (gA g) s.heap H1 locs1 → W p l e R s m args below meth cd H1 locs1 (cells + (hN h1 - hN h)) (slots + (hS h1 - hS h)) Q (F0 m (pc + 3) LS (trs g (r1.toList ++ rest))) := by
              intro H1 locs1 rl1 vS1
              refine IH c _ _ _ _ _ _ hrun p e R s m args below meth cd H1 locs1 _ _ Q LS e9 hX0 vS1 hl rl1 (by omega) (by omega) fun H2 locs2 pc2 LS2 i2 info2 st2 q1 q2 q3 q4 => ?_
              have h9 := hE H2 locs2 pc2 LS2 i2 info2 st2 q1 q2 q3 q4
              rw [show cells + (hN h1 - hN h) + (hN h' - hN h1) = cells + (hN h' - hN h) by omega, show slots + (hS h1 - hS h) + (hS h' - hS h1) = slots + (hS h' - hS h) by omega]
              exact h9
            unfold runM at hz
            split at hz
            · next h900 => exact hP c pc k i ls st av rest info h (r1, h1) hct hpop h900 hz p e R s m args below meth cd H locs cells slots Q LS e9 hX0 vS hl rl (by dsimp only; omega) (by dsimp only; omega) kk
            · next h900 =>
              split at hz
              · next hlen =>
                cases hmk : mi k with
                | none => simp only [mL, hmk] at hz; exact absurd hz (by rw [run_none hmk]; intro q; cases q)
                | some f9 =>
                  have hmL : mL k = f9.2.2.1 := by simp only [mL, hmk]
                  rw [hmL] at hz hlen
                  have hkl : k ≠ lawC := sim_nolaw hct hpop hck (mi_fr hm)
                  exact sim_call hX0 hl.1 hdg hck hpop (by omega) hmk hkl (sim_met (fun pc' ls' st' h0 r0 h0' q0 => IH k pc' ls' st' h0 r0 h0' q0) hmk hkl hz hlen) vS rl (by omega) (by omega) kk
              · cases hz
      | k + 4, hct, hck =>
        match info, hct, hdg with
        | [v, pc'], hct, hdg =>
          rw [run_4 hct] at hrun
          split at hrun
          · next h8 => exact hM c pc k v pc' i ls st h hct p e R s m args below meth cd H locs cells slots Q LS e9 hX0 vS hl rl (by omega) (by omega) h8 (fun H1 locs1 rl1 vS1 => IH c _ _ _ _ _ _ hrun p e R s m args below meth cd H1 locs1 cells slots Q LS e9 hX0 vS1 hl rl1 hc hs hE)
          · cases hrun
        | [], hct, hdg => simp only [run, hct] at hrun; cases hrun
        | [_], hct, hdg => simp only [run, hct] at hrun; cases hrun
        | _ :: _ :: _ :: _, hct, hdg => simp only [run, hct] at hrun; cases hrun

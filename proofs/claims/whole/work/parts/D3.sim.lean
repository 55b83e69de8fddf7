/-! ===== THE MACHINE FOLLOWS, once more: with texts and statics kept (BK), every method but the law. Made of part 12 by wip/whole/genD3.py ===== -/
def Cyy (g : GG) (p : Program) (R : Room) (s : State) (m : MethodId) (args : Array Value) (cd : Code) (cc : ByteArray) (nL : Nat) (own : String) (f lo : Nat) : Prop := CallFix p m cd cc nL s args TB own ∧ BK g s ∧ f ≤ R.frames ∧ lo ≤ R.locals
def SimB (g : GG) (l : Launch) (c pc : Nat) (ls st : List Value) (h : AH) (r : Option Value) (h' : AH) : Prop :=
  ∀ (p : Program) (e : Env) (R : Room) (s : State) (m : MethodId) (args : Array Value) (below : List Frame) (meth : Method) (cd : Code) (H : Heap) (locs : List Loc) (cells slots : Nat) (Q : State → Prop) (LS : Array Slot) (e9 : MInfo), mi c = some e9 → Cyy g p R s m args cd e9.2.1 e9.2.2.1 e9.1.cls e9.2.2.2.2.1 e9.2.2.2.2.2.1 → (e9.1.name = "<init>" → meth.name = "<init>") → va_S (gA g) s.heap H locs → LH g LS e9.2.2.1 ls → Rl g h H →
    cells + (hN h' - hN h) ≤ R.cells → slots + (hS h' - hS h) ≤ R.slots →
    (∀ (H1 : Heap) (locs1 : List Loc) (pc1 : Nat) (LS1 : Array Slot) (i : Instr) (info : List Nat) (st1 : List Value), ct c pc1 = some (i, 2, info) → retv i info h' st1 = some (r, h') → Rl g h' H1 → va_S (gA g) s.heap H1 locs1 → W p l e R s m args below meth cd H1 locs1 (cells + (hN h' - hN h)) (slots + (hS h' - hS h)) Q (F0 m pc1 LS1 (trs g st1))) →
    W p l e R s m args below meth cd H locs cells slots Q (F0 m pc LS (trs g st))
/-- the contract of a method of the tables, of one run of it -/
abbrev MtR (l : Launch) (g : GG) (e9 : MInfo) (av : List Value) (h : AH) (r : Option Value) (h' : AH) : Prop := Met l e9.1 (Cond.code e9.1 e9.2.1 e9.2.2.1 e9.2.2.2.1 :: TB) ({ frames := e9.2.2.2.2.1, cells := hN h' - hN h, slots := hS h' - hS h, locals := e9.2.2.2.2.2.1 } : Room) (PcB g h (trs g av) (BK g)) (QcR g r h') (hN h' - hN h) (hS h' - hS h) (gA g)
theorem metB {g : GG} {l : Launch} {n c : Nat} (IH : ∀ pc ls st h r h', run n c pc ls st h = some (r, h') → SimB g l c pc ls st h r h') {e9 : MInfo} (hm : mi c = some e9) (hlaw : c ≠ lawC) {av : List Value} {h h' : AH} {r : Option Value} (hrun : run n c 0 (lent av e9.2.2.1) [] h = some (r, h')) (hlen : (lsl av).length ≤ e9.2.2.1) : MtR l g e9 av h r h' := by
  have hok := mi_ok hm
  simp only [okM, Bool.and_eq_true, Bool.or_eq_true, decide_eq_true_eq] at hok
  obtain ⟨⟨hok1, hok2⟩, hok3⟩ := hok
  rcases hok3 with hok3 | hok3
  · exact absurd hok3 hlaw
  obtain ⟨⟨⟨⟨h1, h2⟩, h3⟩, h4⟩, h5⟩ := hok3
  refine Met.ofW (cc := e9.2.1) (maxL := e9.2.2.1) (ret := e9.2.2.2.1) h3 rfl ?_
  intro p e s m args below meth cd s₁ B hml hv
  obtain ⟨rfl, hRl, hBK⟩ := hv
  have hts0 := atoms_spec (ws := Cond.code e9.1 e9.2.1 e9.2.2.1 e9.2.2.2.1 :: TB) B.pre
  have hts : ∀ w ∈ TB, w.before (trs g av).toArray s = true := fun w hw => hts0 w (List.mem_cons_of_mem _ hw)
  have hown : s.vm.findClass e9.1.cls = some m.cls := findClass_of_methodNamed B.named
  have hnm : e9.1.name = "<init>" → meth.name = "<init>" := fun q => by rw [(name_of_methodNamed B.named B.method).1]; exact q
  rw [lg_entry_eq]
  refine IH 0 _ [] h r h' hrun p e _ s m _ below meth cd s.heap [] 0 0 _ _ e9 hm ⟨⟨B.exec, B.bytes, hml, hown, hts⟩, hBK, Nat.le_refl _, Nat.le_refl _⟩ hnm va_S.rf (LH_entry hlen) hRl (by rw [Nat.zero_add]; exact Nat.le_refl _) (by rw [Nat.zero_add]; exact Nat.le_refl _) ?_
  intro H1 locs1 pc1 LS1 i info st1 hc hret hRl1 vS1
  have hck := ct_ok hc hm
  simp only [chkE, Bool.and_eq_true, decide_eq_true_eq] at hck
  rw [Nat.zero_add, Nat.zero_add]
  exact sim_ret B.exec B.bytes B.returns B.notSynchronized hck.1 hck.2 hret hRl1 vS1
section CallB
variable {p : Program} {l : Launch} {e : Env} {R : Room} {s : State} {m : MethodId} {args : Array Value} {below : List Frame} {meth : Method} {cd : Code} {H : Heap} {locs : List Loc} {cells slots : Nat} {Q : State → Prop}
/-- a call, its callee's contract being known -/
theorem callB {g : GG} {pc : Nat} {i : Instr} {info : List Nat} {LS : Array Slot} {st av rest : List Value} {h h1 : AH} {r1 : Option Value} {k : Nat} {f9 : MInfo} {cc : ByteArray} {nL : Nat} {own : String} {f lo : Nat} (hX : Cyy g p R s m args cd cc nL own f lo) (hLS : LS.size = nL) (hdg : decode cc pc = .ok (i, ilen i info)) (hck : chk3 own f lo i info = true) (hpop : popc info st h = some (k, av, rest)) (hk : k < 900) (hm : mi k = some f9) (hlaw : k ≠ lawC)
    (hMet : MtR l g f9 av h r1 h1) (vS : va_S (gA g) s.heap H locs) (rl : Rl g h H) (hc : cells + (hN h1 - hN h) ≤ R.cells) (hs : slots + (hS h1 - hS h) ≤ R.slots)
    (kk : ∀ (H1 : Heap) (locs1 : List Loc), Rl g h1 H1 → va_S (gA g) s.heap H1 locs1 → W p l e R s m args below meth cd H1 locs1 (cells + (hN h1 - hN h)) (slots + (hS h1 - hS h)) Q (F0 m (pc + 3) LS (trs g (r1.toList ++ rest)))) : W p l e R s m args below meth cd H locs cells slots Q (F0 m pc LS (trs g st)) := by
  obtain ⟨⟨hx, hb, hml, hown, hts⟩, hBK, hfr, hlo⟩ := hX
  have hK := hBK.1
  have hok := mi_ok hm
  simp only [okM, Bool.and_eq_true, Bool.or_eq_true, decide_eq_true_eq] at hok
  obtain ⟨-, hok3⟩ := hok
  rcases hok3 with hok3 | hok3
  · exact absurd hok3 hlaw
  obtain ⟨⟨⟨⟨h1', h2'⟩, h3'⟩, h4'⟩, h5'⟩ := hok3
  have hcode := TBw_in h1'
  have hini := hts _ (TBw_in h2')
  match info, hpop, hck, hdg with
  | [k0, n, kd, t, ne, pl, pa, ps], hpop, hck, hdg =>
    unfold popc at hpop
    dsimp only at hpop
    split at hpop
    · next hp =>
      cases hpop
      obtain ⟨hp1, hp2, hp3⟩ := hp
      unfold chk3 at hck
      dsimp only at hck
      rw [if_neg (by omega), hm] at hck
      obtain ⟨y, bs, mx, ret, f', lo', pc', pi'⟩ := f9
      dsimp only at hck hMet hcode hini h4' h5'
      simp only [Bool.and_eq_true, decide_eq_true_eq] at hck
      obtain ⟨⟨hf1, hf2⟩, hck⟩ := hck
      have hR9 : f' + 1 ≤ R.frames ∧ 8 + (mx + 11) + lo' ≤ R.locals := ⟨Nat.le_trans hf1 hfr, Nat.le_trans hf2 hlo⟩
      have hstk : trs g st = (trs g (st.take n).reverse).reverse ++ trs g (st.drop n) := by
        simp only [trs, List.map_reverse, List.reverse_reverse]
        rw [← List.map_append, List.take_append_drop]
      have hroom : 2 * (F0 m pc LS (trs g st)).monitorRoom + ((trs g (st.drop n)).map fun v => v.category).sum ≤ 8 := by
        show 2 * 0 + _ ≤ 8
        rw [trs_cat]
        omega
      have hfix : CallFix p m cd cc nL s args TB own := ⟨hx, hb, hml, hown, hts⟩
      have hpre : ∀ U : State, U.heap = H → s.WarmedH U.vm → PcB g h (trs g (st.take n).reverse) (BK g) (trs g (st.take n).reverse).toArray U := fun U hU hW => ⟨rfl, by rw [hU]; exact rl, BK.stb g s U H locs hBK vS hU hW⟩
      have go : ∀ a, va_Run p l e R s m args below meth cd H locs cells slots (hN h1 - hN h) (hS h1 - hS h) (F0 m pc LS (trs g st)) (trs g (st.drop n)) (QcR g r1 h1 a) (gA g) → W p l e R s m args below meth cd H locs cells slots Q (F0 m pc LS (trs g st)) := by
        intro a hrun
        refine call_go hrun vS fun H1 locs1 r1' v1' => ?_
        have h9 := kk H1 locs1 r1' v1'
        have e9' : trs g (r1.toList ++ st.drop n) = (r1.map (tr g)).toList ++ trs g (st.drop n) := by
          cases r1 <;> simp [trs]
        rw [e9'] at h9
        exact h9
      cases i with
      | invokestatic ix =>
        dsimp only at hck
        simp only [Bool.and_eq_true, decide_eq_true_eq] at hck
        obtain ⟨⟨⟨hl9, hk0⟩, hst9⟩, hd9⟩ := hck
        have hn9 : (trs g (st.take n).reverse).length = n := by simp [trs]; omega
        by_cases hne : ne = 0
        · rw [if_pos hne] at hl9
          exact go _ (va_runS hfix hMet ⟨callB_of n hts (GoodIn.code hcode) rfl rfl rfl hini (hts _ (TBw_in hl9)) ⟨h4', h5', hd9⟩ hR9, hts _ (TBw_in hst9)⟩ ⟨PcB_blind (BK.stb g), hpre⟩ rfl hn9 hLS hstk hroom hdg ⟨hc, hs⟩)
        · rw [if_neg hne] at hl9
          exact go _ (va_runSN hfix hMet ⟨va_cnB n hts (GoodIn.code hcode) rfl rfl rfl (hK.2.1 _ (NWw_in hl9)) hini ⟨h4', h5', hd9⟩ hR9, hts _ (TBw_in hst9), trivial⟩ ⟨PcB_blind (BK.stb g), hpre⟩ rfl hn9 hLS hstk hroom hdg ⟨hc, hs⟩)
      | invokevirtual ix =>
        dsimp only at hck
        simp only [Bool.and_eq_true, decide_eq_true_eq] at hck
        obtain ⟨⟨⟨⟨⟨hl9, hk0⟩, hin9⟩, hse9⟩, hd9⟩, ht9⟩ := hck
        subst hk0
        generalize hav : (st.take n).reverse = av at *
        match av, hav with
        | [], hav => simp [rcv] at hp3
        | .ref a :: as', hav =>
          have hta : hT h a = t := by simpa [rcv] using hp3
          match t, ht9, hta with
          | 0, ht9, _ => cases ht9
          | ci + 1, ht9, hta =>
            have ht9 := of_decide_eq_true ht9
            cases hz : vwCl[ci]? with
            | none => rw [hz] at ht9; cases ht9
            | some z =>
              rw [hz] at ht9
              have hzc : z.1 = y.cls := Option.some.inj ht9
              have hl13 := vwCl_lt hz
              have hlv := rl.live (a := a) (by rw [hta]; omega) (by rw [hta]; omega)
              have hob := (rl.2.2.1 a hlv.1 hlv.2).1 ci z hz hta
              have ea : tr g (.ref a) = .ref (ro g a) := tr_ref (ne0_of hlv.1)
              have etr : trs g (.ref a :: as') = .ref (ro g a) :: trs g as' := by
                show tr g (.ref a) :: trs g as' = _
                rw [ea]
              rw [etr] at hstk hpre
              have hlen : st.length ≥ n := hp1
              have hn9 : (trs g as').length + 1 = n := by
                have := congrArg List.length hav
                simp at this
                simp [trs]
                omega
              have hd9' : (parseMethodDescriptor y.desc).map (fun d => d.parameters.length) = some (trs g as').length := by
                cases hpd : parseMethodDescriptor y.desc with
                | none => rw [hpd] at hd9; cases hd9
                | some d =>
                  rw [hpd] at hd9
                  have h7 : d.parameters.length + 1 = n := Option.some.inj hd9
                  show some d.parameters.length = some _
                  congr 1
                  omega
              have hstk' : trs g st = (trs g as').reverse ++ .ref (ro g a) :: trs g (st.drop n) := by
                rw [hstk, List.reverse_cons, List.append_assoc]
                rfl
              have hprv : PreV s H y.cls (ro g a) (PcB g h (trs g (.ref a :: as')) (BK g)) (trs g as') := by
                refine ⟨PcB_blind (BK.stb g), ?_, fun U hU hW => by rw [etr]; exact hpre U hU hW⟩
                obtain ⟨cell, q1, q2, q3, -⟩ := hob
                exact ⟨cell, q1, by rw [q3]; rfl, by rw [q2, ← hzc]; exact (hK.1.1 ci z hz).2.1⟩
              by_cases hne : ne = 0
              · rw [if_pos hne] at hl9
                exact go _ (va_runV hfix hMet ⟨callB_of _ hts (GoodIn.code hcode) rfl rfl rfl hini (hts _ (TBw_in hl9)) ⟨h4', h5', hd9'⟩ hR9, hts _ (TBw_in hin9), hts _ (TBw_in hse9)⟩ hprv rfl rfl hLS hstk' hroom hdg ⟨hc, hs⟩)
              · rw [if_neg hne] at hl9
                exact go _ (va_runVN hfix hMet ⟨va_cnB _ hts (GoodIn.code hcode) rfl rfl rfl (hK.2.1 _ (NWw_in hl9)) hini ⟨h4', h5', hd9'⟩ hR9, hts _ (TBw_in hin9), hts _ (TBw_in hse9)⟩ hprv rfl rfl hLS hstk' hroom hdg ⟨hc, hs⟩)
        | .int _ :: _, _ => simp [rcv] at hp3
        | .long _ :: _, _ => simp [rcv] at hp3
        | .float _ :: _, _ => simp [rcv] at hp3
        | .double _ :: _, _ => simp [rcv] at hp3
        | .null :: _, _ => simp [rcv] at hp3
        | .retAddr _ :: _, _ => simp [rcv] at hp3
      | invokespecial ix =>
        dsimp only at hck
        simp only [Bool.and_eq_true, decide_eq_true_eq] at hck
        obtain ⟨⟨⟨⟨⟨hl9, hk0⟩, hin9⟩, hd9⟩, hnm9⟩, hret9⟩ := hck
        subst hk0
        subst hret9
        generalize hav : (st.take n).reverse = av at *
        match av, hav with
        | [], hav => simp [rcv] at hp3
        | .ref a :: as', hav =>
          have ha0 : a ≠ 0 := by simpa [rcv] using hp3
          have ea : tr g (.ref a) = .ref (ro g a) := tr_ref ha0
          have etr : trs g (.ref a :: as') = .ref (ro g a) :: trs g as' := by
            show tr g (.ref a) :: trs g as' = _
            rw [ea]
          rw [etr] at hstk hpre
          have hlen : st.length ≥ n := hp1
          have hn9 : (trs g as').length + 1 = n := by
            have := congrArg List.length hav
            simp at this
            simp [trs]
            omega
          have hd9' : (parseMethodDescriptor y.desc).map (fun d => d.parameters.length) = some (trs g as').length := by
            cases hpd : parseMethodDescriptor y.desc with
            | none => rw [hpd] at hd9; cases hd9
            | some d =>
              rw [hpd] at hd9
              have h7 : d.parameters.length + 1 = n := Option.some.inj hd9
              show some d.parameters.length = some _
              congr 1
              omega
          have hstk' : trs g st = (trs g as').reverse ++ .ref (ro g a) :: trs g (st.drop n) := by
            rw [hstk, List.reverse_cons, List.append_assoc]
            rfl
          have hprv : PreS s H (PcB g h (trs g (.ref a :: as')) (BK g)) (.ref (ro g a) :: trs g as') := ⟨PcB_blind (BK.stb g), fun U hU hW => by rw [etr]; exact hpre U hU hW⟩
          by_cases hne : ne = 0
          · rw [if_pos hne] at hl9
            exact go _ (va_runI hfix hMet ⟨callB_of _ hts (GoodIn.code hcode) rfl rfl rfl hini (hts _ (TBw_in hl9)) ⟨h4', h5', hd9'⟩ hR9, hnm9, hts _ (TBw_in hin9)⟩ hprv rfl rfl hLS hstk' hroom hdg ⟨hc, hs⟩)
          · rw [if_neg hne] at hl9
            exact go _ (va_runIN hfix hMet ⟨va_cnB _ hts (GoodIn.code hcode) rfl rfl rfl (hK.2.1 _ (NWw_in hl9)) hini ⟨h4', h5', hd9'⟩ hR9, hnm9, hts _ (TBw_in hin9)⟩ hprv rfl rfl hLS hstk' hroom hdg ⟨hc, hs⟩)
        | .int _ :: _, _ => simp [rcv] at hp3
        | .long _ :: _, _ => simp [rcv] at hp3
        | .float _ :: _, _ => simp [rcv] at hp3
        | .double _ :: _, _ => simp [rcv] at hp3
        | .null :: _, _ => simp [rcv] at hp3
        | .retAddr _ :: _, _ => simp [rcv] at hp3
      | _ => cases hck
    · cases hpop
end CallB
/-- only the law calls what may throw -/
def noP (e : Nat × Instr × Nat × List Nat) : Bool := match e.2.2.1 with
  | 3 => decide (e.2.2.2.headD 0 < 900)
  | _ => true
theorem noP_all : (LT.all fun t => decide (t.1 = lawC) || t.2.all noP) = true := by decide +kernel
theorem no_prim {c pc k : Nat} {i : Instr} {info : List Nat} {st av rest : List Value} {h : AH} (hct : ct c pc = some (i, 3, info)) (hcl : c ≠ lawC) (hpop : popc info st h = some (k, av, rest)) : ¬ 900 ≤ k := by
  obtain ⟨t, h1, h2⟩ := ct_mem hct
  have h3 := List.all_eq_true.mp noP_all _ h1
  simp only [Bool.or_eq_true, decide_eq_true_eq] at h3
  rcases h3 with h3 | h3
  · exact absurd h3 hcl
  · have h4 := List.all_eq_true.mp h3 _ h2
    match info, hpop, h4 with
    | c0 :: n :: kd :: t9 :: tl, hpop, h4 =>
      have h4 : c0 < 900 := of_decide_eq_true h4
      unfold popc at hpop
      dsimp only at hpop
      split at hpop
      · cases hpop; omega
      · cases hpop
/-- the text constants of Tokens() -/
theorem mac_all : ((lkT LT 92).all fun e => decide (e.2.2.1 < 4) || decide (e.1 = 11 ∨ e.1 = 19 ∨ e.1 = 27 ∨ e.1 = 35 ∨ e.1 = 43 ∨ e.1 = 51 ∨ e.1 = 60)) = true := by decide +kernel
theorem mac_in {pc k v pc' : Nat} {i : Instr} (hct : ct 92 pc = some (i, k + 4, [v, pc'])) : pc = 11 ∨ pc = 19 ∨ pc = 27 ∨ pc = 35 ∨ pc = 43 ∨ pc = 51 ∨ pc = 60 := by
  have h2 := List.all_eq_true.mp mac_all _ (lk_mem hct)
  simp only [Bool.or_eq_true, decide_eq_true_eq] at h2
  rcases h2 with h2 | h2
  · omega
  · exact h2
section MacB
variable {p : Program} {l : Launch} {e : Env} {R : Room} {s : State} {m : MethodId} {args : Array Value} {below : List Frame} {meth : Method} {cd : Code} {H : Heap} {locs : List Loc} {cells slots : Nat} {Q : State → Prop}
theorem macB1 {g : GG} {pc v pc' ix : Nat} {tx : String} {bs : List Int32} {st : List Value} {h : AH} {LS : Array Slot} {e9 : MInfo} (hm : mi 92 = some e9) (hX : Cyy g p R s m args cd e9.2.1 e9.2.2.1 e9.1.cls e9.2.2.2.2.1 e9.2.2.2.2.2.1) (vS : va_S (gA g) s.heap H locs) (hsz : LS.size = e9.2.2.1) (rl : Rl g h H) (hc : cells ≤ R.cells) (hs : slots ≤ R.slots) (h8 : (st.map fun v => v.category).sum ≤ 8)
    (d1 : decode e9.2.1 pc = .ok (.ldc ix, 2)) (d2 : decode e9.2.1 (pc + 2) = .ok (.invokestatic 11, 3)) (hpc : pc' = pc + 2 + 3) (hq : (RX10, ix, tx, bs) ∈ txL) (hlen : bs.length < 1000) (hv : spF bs bs.length = nI v)
    (kk : ∀ (H1 : Heap) (locs1 : List Loc), Rl g h H1 → va_S (gA g) s.heap H1 locs1 → W p l e R s m args below meth cd H1 locs1 cells slots Q (F0 m pc' LS (trs g (.int (nI v) :: st)))) : W p l e R s m args below meth cd H locs cells slots Q (F0 m pc LS (trs g st)) := by
  obtain ⟨S, hBK, hfr, hlo⟩ := hX
  obtain ⟨hx, hb, hml, hown, hts⟩ := id S
  have e1 := cm92
  rw [hm] at e1
  cases Option.some.inj e1
  obtain ⟨a, vv, hr, so⟩ := hBK.2.1 _ hq
  refine va_ldcS hx hb hown hr d1 ?_
  refine stS (vals := [.ref a]) (rest := trs g st) S (jsp (a := a) (v := vv) (bs := bs) hlen) (BS.stb g a vv bs) ⟨hBK, so⟩ ⟨(TBw_in (pl := 225) (by decide +kernel)), (TBw_in (pl := 98) (by decide +kernel)), by decide, by decide, (show (parseMethodDescriptor yX10_spell.desc).map (fun d => d.parameters.length) = some 1 by decide +kernel)⟩ (TBw_in (pl := 223) (by decide +kernel)) (TBw_in (pl := 224) (by decide +kernel)) ⟨hfr, hlo⟩ vS rl hsz (by rw [trs_cat]; exact h8) d2 ⟨hc, hs⟩ fun H1 locs1 rl1 vS1 => ?_
  have := kk H1 locs1 rl1 vS1
  rw [hpc] at this
  rw [hv]
  exact this
theorem macB {g : GG} {pc k v pc' : Nat} {i : Instr} {ls st : List Value} {h : AH} {LS : Array Slot} {e9 : MInfo} (hct : ct 92 pc = some (i, k + 4, [v, pc'])) (hm : mi 92 = some e9) (hX : Cyy g p R s m args cd e9.2.1 e9.2.2.1 e9.1.cls e9.2.2.2.2.1 e9.2.2.2.2.2.1) (vS : va_S (gA g) s.heap H locs) (hl : LH g LS e9.2.2.1 ls) (rl : Rl g h H) (hc : cells ≤ R.cells) (hs : slots ≤ R.slots) (h8 : (st.map fun v => v.category).sum ≤ 8)
    (kk : ∀ (H1 : Heap) (locs1 : List Loc), Rl g h H1 → va_S (gA g) s.heap H1 locs1 → W p l e R s m args below meth cd H1 locs1 cells slots Q (F0 m pc' LS (trs g (.int (nI v) :: st)))) : W p l e R s m args below meth cd H locs cells slots Q (F0 m pc LS (trs g st)) := by
  have hin := mac_in hct
  have e1 := cm92
  rw [hm] at e1
  cases Option.some.inj e1
  rcases hin with rfl | rfl | rfl | rfl | rfl | rfl | rfl
  · have e2 : ct 92 11 = some (.ldc 9, 4, [13172, 16]) := by decide +kernel
    rw [hct] at e2
    cases e2
    exact macB1 hm hX vS hl.1 rl hc hs h8 (by decide +kernel) (by decide +kernel) rfl (List.mem_of_getElem? (i := 0) rfl) (by decide) (by decide +kernel) kk
  · have e2 : ct 92 19 = some (.ldc 17, 4, [256910, 24]) := by decide +kernel
    rw [hct] at e2
    cases e2
    exact macB1 hm hX vS hl.1 rl hc hs h8 (by decide +kernel) (by decide +kernel) rfl (List.mem_of_getElem? (i := 1) rfl) (by decide) (by decide +kernel) kk
  · have e2 : ct 92 27 = some (.ldc 19, 4, [411, 32]) := by decide +kernel
    rw [hct] at e2
    cases e2
    exact macB1 hm hX vS hl.1 rl hc hs h8 (by decide +kernel) (by decide +kernel) rfl (List.mem_of_getElem? (i := 2) rfl) (by decide) (by decide +kernel) kk
  · have e2 : ct 92 35 = some (.ldc 21, 4, [1903978, 40]) := by decide +kernel
    rw [hct] at e2
    cases e2
    exact macB1 hm hX vS hl.1 rl hc hs h8 (by decide +kernel) (by decide +kernel) rfl (List.mem_of_getElem? (i := 3) rfl) (by decide) (by decide +kernel) kk
  · have e2 : ct 92 43 = some (.ldc 23, 4, [459791, 48]) := by decide +kernel
    rw [hct] at e2
    cases e2
    exact macB1 hm hX vS hl.1 rl hc hs h8 (by decide +kernel) (by decide +kernel) rfl (List.mem_of_getElem? (i := 4) rfl) (by decide) (by decide +kernel) kk
  · have e2 : ct 92 51 = some (.ldc 25, 4, [453959, 56]) := by decide +kernel
    rw [hct] at e2
    cases e2
    exact macB1 hm hX vS hl.1 rl hc hs h8 (by decide +kernel) (by decide +kernel) rfl (List.mem_of_getElem? (i := 5) rfl) (by decide) (by decide +kernel) kk
  · have e2 : ct 92 60 = some (.ldc 27, 4, [257, 65]) := by decide +kernel
    rw [hct] at e2
    cases e2
    exact macB1 hm hX vS hl.1 rl hc hs h8 (by decide +kernel) (by decide +kernel) rfl (List.mem_of_getElem? (i := 6) rfl) (by decide) (by decide +kernel) kk
end MacB
/-- THE MACHINE FOLLOWS the abstract one -/
theorem simN (g : GG) (l : Launch) : ∀ (n c pc : Nat) (ls st : List Value) (h : AH) (r : Option Value) (h' : AH), c ≠ lawC → run n c pc ls st h = some (r, h') → SimB g l c pc ls st h r h'
  | 0, _, _, _, _, _, _, _, _, e => by cases e
  | n + 1, c, pc, ls, st, h, r, h', hcl, hrun => by
    have IH := simN g l n
    intro p e R s m args below meth cd H locs cells slots Q LS e9 hm hX hnm vS hl rl hc hs hE
    have hX0 := hX
    obtain ⟨⟨hx, hb, hml, hown, hts⟩, hBK, hfr, hlo⟩ := hX
    have hK := hBK.1
    have hok := mi_ok hm
    simp only [okM, Bool.and_eq_true, decide_eq_true_eq] at hok
    obtain ⟨⟨hok1, hok2⟩, -⟩ := hok
    cases hct : ct c pc with
    | none => simp only [run, hct] at hrun; cases hrun
    | some x =>
      obtain ⟨i, cat, info⟩ := x
      have hck := ct_ok hct hm
      simp only [chkE, Bool.and_eq_true, decide_eq_true_eq] at hck
      obtain ⟨hdg, hck⟩ := hck
      match cat, hct, hck with
      | 0, hct, hck =>
        rw [run_0 hct] at hrun
        cases hst : lstep i info pc ls st with
        | none => rw [hst] at hrun; cases hrun
        | some q =>
          rw [hst] at hrun
          exact simL g hx hb hown hts hdg hck hl hst (fun LS' hl' => IH c _ _ _ _ _ _ hcl hrun p e R s m args below meth cd H locs cells slots Q LS' e9 hm hX0 hnm vS hl' rl hc hs hE)
      | 1, hct, hck =>
        rw [run_1 hct] at hrun
        cases hst : hstep i info st h with
        | none => rw [hst] at hrun; cases hrun
        | some q =>
          rw [hst] at hrun
          have g1 := hstep_grow hst
          have g2 := run_grow n _ _ _ _ _ _ hrun
          dsimp only at g2
          refine simH hx hb (hml.trans hl.1.symm) hown hts hK hnm (Nat.le_trans hok2 hfr) (Nat.le_trans hok1 hlo) hdg hck vS rl hst (by omega) (by omega) fun H1 locs1 rl1 vS1 => ?_
          refine IH c _ _ _ _ _ _ hcl hrun p e R s m args below meth cd H1 locs1 _ _ Q LS e9 hm hX0 hnm vS1 hl rl1 (by omega) (by omega) fun H2 locs2 pc2 LS2 i2 info2 st2 q1 q2 q3 q4 => ?_
          have h9 := hE H2 locs2 pc2 LS2 i2 info2 st2 q1 q2 q3 q4
          rw [show cells + (hN q.2 - hN h) + (hN h' - hN q.2) = cells + (hN h' - hN h) by omega, show slots + (hS q.2 - hS h) + (hS h' - hS q.2) = slots + (hS h' - hS h) by omega]
          exact h9
      | 2, hct, hck =>
        rw [run_2 hct] at hrun
        have e1 : h' = h := retv_h hrun
        subst e1
        have h9 := hE H locs pc LS i info st hct hrun rl vS
        rw [Nat.sub_self, Nat.sub_self] at h9
        exact h9
      | 3, hct, hck =>
        rw [run_3 hct] at hrun
        cases hpop : popc info st h with
        | none => rw [hpop] at hrun; cases hrun
        | some q =>
          obtain ⟨k, av, rest⟩ := q
          rw [hpop] at hrun
          simp only [Option.bind_some] at hrun
          cases hz : runM n k av h with
          | none => rw [hz] at hrun; cases hrun
          | some z =>
            rw [hz] at hrun
            obtain ⟨r1, h1⟩ := z
            simp only [Option.bind_some] at hrun
            have g1 := runM_grow hz
            have g2 := run_grow n _ _ _ _ _ _ hrun
            dsimp only at g1 g2
            have kk : ∀ (H1 : Heap) (locs1 : List Loc), Rl g h1 H1 → va_S (gA g) s.heap H1 locs1 → W p l e R s m args below meth cd H1 locs1 (cells + (hN h1 - hN h)) (slots + (hS h1 - hS h)) Q (F0 m (pc + 3) LS (trs g (r1.toList ++ rest))) := by
              intro H1 locs1 rl1 vS1
              refine IH c _ _ _ _ _ _ hcl hrun p e R s m args below meth cd H1 locs1 _ _ Q LS e9 hm hX0 hnm vS1 hl rl1 (by omega) (by omega) fun H2 locs2 pc2 LS2 i2 info2 st2 q1 q2 q3 q4 => ?_
              have h9 := hE H2 locs2 pc2 LS2 i2 info2 st2 q1 q2 q3 q4
              rw [show cells + (hN h1 - hN h) + (hN h' - hN h1) = cells + (hN h' - hN h) by omega, show slots + (hS h1 - hS h) + (hS h' - hS h1) = slots + (hS h' - hS h) by omega]
              exact h9
            unfold runM at hz
            split at hz
            · next h900 => exact absurd h900 (no_prim hct hcl hpop)
            · next h900 =>
              split at hz
              · next hlen =>
                cases hmk : mi k with
                | none => simp only [mL, hmk] at hz; exact absurd hz (by rw [run_none hmk]; intro q; cases q)
                | some f9 =>
                  have hmL : mL k = f9.2.2.1 := by simp only [mL, hmk]
                  rw [hmL] at hz hlen
                  have hkl : k ≠ lawC := sim_nolaw hct hpop hck (mi_fr hm)
                  exact callB hX0 hl.1 hdg hck hpop (by omega) hmk hkl (metB (fun pc' ls' st' h0 r0 h0' q0 => IH k pc' ls' st' h0 r0 h0' hkl q0) hmk hkl hz hlen) vS rl (by omega) (by omega) kk
              · cases hz
      | k + 4, hct, hck =>
        match info, hct, hdg with
        | [v, pc'], hct, hdg =>
          rw [run_4 hct] at hrun
          split at hrun
          · next h8 =>
            have hc92 : c = 92 := of_decide_eq_true hck
            subst hc92
            exact macB hct hm hX0 vS hl rl (by omega) (by omega) h8 (fun H1 locs1 rl1 vS1 => IH 92 _ _ _ _ _ _ hcl hrun p e R s m args below meth cd H1 locs1 cells slots Q LS e9 hm hX0 hnm vS1 hl rl1 hc hs hE)
          · cases hrun
        | [], hct, hdg => simp only [run, hct] at hrun; cases hrun
        | [_], hct, hdg => simp only [run, hct] at hrun; cases hrun
        | _ :: _ :: _ :: _, hct, hdg => simp only [run, hct] at hrun; cases hrun


/-! ===== WHAT THE START GIVES OF TEXTS AND STATICS, kept by all that is made above gO ===== -/
/-- a text constant: class, pool entry, text, bytes -/
abbrev TXt : Type := String × Nat × String × List Int32
def txL : List TXt := [(RX10, 9, "raw", [114, 97, 119]), (RX10, 17, "make", [109, 97, 107, 101]), (RX10, 19, "of", [111, 102]), (RX10, 21, "costs", [99, 111, 115, 116, 115]), (RX10, 23, "wish", [119, 105, 115, 104]), (RX10, 25, "wash", [119, 97, 115, 104]), (RX10, 27, "in", [105, 110])]
def NSE : String := "java/util/NoSuchElementException"
def xDl : List MethodName := [Bundle.initS "java/lang/RuntimeException", Bundle.initS "java/lang/Exception", Bundle.initS Bundle.tN]
def txM : List (Nat × String) := [(116, "no such THING"), (144, "no such what"), (152, "no such THING or what")]
/-- the String at a, its bytes at v -/
def So (g : GG) (a v : Nat) (bs : List Int32) (U : State) : Prop := va_O "java/lang/String" a (gA g) U U.heap ∧ va_OF "java/lang/String" "coder" "B" (.int 0) a (gA g) U U.heap ∧ va_OF "java/lang/String" "value" "[B" (.ref v) a (gA g) U U.heap ∧ va_T .byte v bs.length (fun j => .int (bs.getD j 0)) (gA g) U U.heap
def Ex (g : GG) (U : State) : Prop := (∀ q ∈ txL, ∃ a v, vk_R q.1 q.2.1 q.2.2.1 a U ∧ So g a v q.2.2.2 U) ∧ (∀ q ∈ txM, ∃ a, vk_R RX11 q.1 q.2 a U) ∧ va_Z "java/lang/String" "COMPACT_STRINGS" "Z" (.int 1) (gA g) U U.heap ∧ va_Zq "jdk/internal/util/Preconditions" "SIOOBE_FORMATTER" "Ljava/util/function/BiFunction;" (gA g) U U.heap ∧ vx_Zq Bundle.tN "UNASSIGNED_STACK" Bundle.steD (gA g) U U.heap ∧ vx_Zq Bundle.tN "SUPPRESSED_SENTINEL" Bundle.listD (gA g) U U.heap ∧ (∀ y ∈ xDl, va_Nw (.declares y) U) ∧ va_Nw (.castable NSE NSE) U
/-- what stays when the heap changes above gO alone -/
def Stb (g : GG) (B : State → Prop) : Prop := ∀ (s U : State) (H : Heap) (locs : List Loc), B s → va_S (gA g) s.heap H locs → U.heap = H → s.WarmedH U.vm → B U
theorem So.stb (g : GG) (a v : Nat) (bs : List Int32) : Stb g (So g a v bs) := fun s U H locs h hS hU hW => by
  obtain ⟨h1, h2, h3, h4⟩ := h
  unfold So
  rw [hU]
  exact ⟨va_O.moved hW.alike (h1.kept hS.2.1), va_OF.moved hW.alike (h2.kept hS.2.1), va_OF.moved hW.alike (h3.kept hS.2.1), va_T.moved hW.alike (h4.kept hS.2.1)⟩
theorem Ex.stb (g : GG) : Stb g (Ex g) := fun s U H locs h hS hU hW => by
  obtain ⟨h1, h2, h3, h4, h5, h6, h7, h8⟩ := h
  refine ⟨fun q hq => ?_, fun q hq => ?_, ?_, ?_, ?_, ?_, fun y hy => va_Nw.warmD hW (h7 y hy), va_Nw.warmC hW h8⟩
  · obtain ⟨a, v, r, so⟩ := h1 q hq
    exact ⟨a, v, vk_R.warm hW r, So.stb g a v _ s U H locs so hS hU hW⟩
  · obtain ⟨a, r⟩ := h2 q hq
    exact ⟨a, vk_R.warm hW r⟩
  · rw [hU]; exact va_Z.moved hW.alike (h3.kept hS.2.1)
  · rw [hU]; exact va_Zq.moved hW.alike (h4.kept hS.2.1)
  · rw [hU]; exact vx_Zq.moved hW.alike (h5.kept hS.2.1)
  · rw [hU]; exact vx_Zq.moved hW.alike (h6.kept hS.2.1)
theorem Rk.stb (g : GG) : Stb g (Rk g) := fun s U H locs h hS hU hW => h.moved hS hU hW
theorem Stb.and {g : GG} {B C : State → Prop} (b : Stb g B) (c : Stb g C) : Stb g (fun U => B U ∧ C U) := fun s U H locs h hS hU hW => ⟨b s U H locs h.1 hS hU hW, c s U H locs h.2 hS hU hW⟩
def BK (g : GG) : State → Prop := fun U => Rk g U ∧ Ex g U
theorem BK.stb (g : GG) : Stb g (BK g) := (Rk.stb g).and (Ex.stb g)
def BS (g : GG) (a v : Nat) (bs : List Int32) : State → Prop := fun U => BK g U ∧ So g a v bs U
theorem BS.stb (g : GG) (a v : Nat) (bs : List Int32) : Stb g (BS g a v bs) := (BK.stb g).and (So.stb g a v bs)
/-- a contract's start: the values, the AM's heap, what stays -/
def PcB (g : GG) (h : AH) (vals : List Value) (B : State → Prop) : Array Value → State → Prop := va_Pc vals (fun U => Rl g h U.heap ∧ B U)
theorem PcB_blind {g : GG} {h : AH} {vals : List Value} {B : State → Prop} (hB : Stb g B) : FrameBlind (PcB g h vals B) := by
  intro a U gg mk hp
  obtain ⟨h1, h2, h3⟩ := hp
  exact ⟨h1, h2, hB U (U.calling gg mk a) U.heap [] h3 va_S.rf rfl (State.WarmedH.refl U)⟩
/-- a contract that makes nothing -/
abbrev MtB (l : Launch) (g : GG) (h : AH) (y : MethodName) (bytes : ByteArray) (maxL : Nat) (ret : Option FieldType) (f lo : Nat) (vals : List Value) (B : State → Prop) (r : Option Value) : Prop := Met l y (Cond.code y bytes maxL ret :: TB) ({ frames := f, cells := 0, slots := 0, locals := lo } : Room) (PcB g h vals B) (QcR g r h) 0 0 (gA g)
section Bd
variable {p : Program} {l : Launch} {e : Env} {R : Room} {s : State} {m : MethodId} {args : Array Value} {below : List Frame} {meth : Method} {cd : Code} {H : Heap} {locs : List Loc} {cells slots : Nat} {Q : State → Prop}
variable {g : GG} {h : AH} {y : MethodName} {bytes cc : ByteArray} {maxL nL f lo index pc : Nat} {ret : Option FieldType} {vals rest : List Value} {B : State → Prop} {r : Option Value} {own : String} {LS : Array Slot}
theorem ofB (hpl : plainName y.cls = true) (body : ∀ (p : Program) (e : Env) (s : State) (m : MethodId) (below : List Frame) (meth : Method) (cd : Code), CallFix p m cd bytes maxL s vals.toArray TB y.cls → B s → Rl g h s.heap → meth.locks = false → meth.sig.returnType = ret → W p l e ({ frames := f, cells := 0, slots := 0, locals := lo } : Room) s m vals.toArray below meth cd s.heap [] 0 0 (MQ below (QcR g r h) vals.toArray s 0 0 (gA g)) (entryFrame m vals.toArray maxL)) : MtB l g h y bytes maxL ret f lo vals B r := by
  refine Met.ofW (cc := bytes) (maxL := maxL) (ret := ret) hpl rfl ?_
  intro p e s m args below meth cd s₁ B9 hml hv
  obtain ⟨rfl, hRl, hBs⟩ := hv
  have hts0 := atoms_spec (ws := Cond.code y bytes maxL ret :: TB) B9.pre
  exact body p e s m below meth cd ⟨B9.exec, B9.bytes, hml, findClass_of_methodNamed B9.named, fun w hw => hts0 w (List.mem_cons_of_mem _ hw)⟩ hBs hRl B9.notSynchronized B9.returns
/-- the words of a callee -/
abbrev Wy (y : MethodName) (bytes : ByteArray) (maxL : Nat) (ret : Option FieldType) (n : Nat) : Prop := Cond.code y bytes maxL ret ∈ TB ∧ Cond.initialized y.cls ∈ TB ∧ y.cls ≠ "java/lang/invoke/MethodHandle" ∧ y.cls ≠ "java/lang/invoke/VarHandle" ∧ (parseMethodDescriptor y.desc).map (fun d => d.parameters.length) = some n
theorem stS (S : CallFix p m cd cc nL s args TB own) (hMet : MtB l g h y bytes maxL ret f lo vals B r) (hB : Stb g B) (bs : B s) (wy : Wy y bytes maxL ret vals.length) (hl : Cond.methodLink own index y ∈ TB) (hst : Cond.static y ∈ TB) (hR : f + 1 ≤ R.frames ∧ 8 + (maxL + 11) + lo ≤ R.locals) (vS : va_S (gA g) s.heap H locs) (rl : Rl g h H) (hLS : LS.size = nL) (hw : (rest.map fun v => v.category).sum ≤ 8) (hdg : decode cc pc = .ok (.invokestatic index, 3)) (hc : cells ≤ R.cells ∧ slots ≤ R.slots)
    (kk : ∀ (H1 : Heap) (locs1 : List Loc), Rl g h H1 → va_S (gA g) s.heap H1 locs1 → W p l e R s m args below meth cd H1 locs1 cells slots Q (F0 m (pc + 3) LS ((r.map (tr g)).toList ++ rest))) : W p l e R s m args below meth cd H locs cells slots Q (F0 m pc LS (vals.reverse ++ rest)) := by
  have hts := S.2.2.2.2
  have hpre : ∀ U : State, U.heap = H → s.WarmedH U.vm → PcB g h vals B vals.toArray U := fun U hU hW => ⟨rfl, by rw [hU]; exact rl, hB s U H locs bs vS hU hW⟩
  have hrun := va_runS (p := p) (l := l) (e := e) (R := R) (s := s) (m := m) (args := args) (below := below) (meth := meth) (c := cd) (H := H) (locs := locs) (cells := cells) (slots := slots) (g := F0 m pc LS (vals.reverse ++ rest)) (rest := rest) S hMet ⟨callB_of vals.length hts (GoodIn.code wy.1) rfl rfl rfl (hts _ wy.2.1) (hts _ hl) wy.2.2 hR, hts _ hst⟩ ⟨PcB_blind hB, hpre⟩ rfl rfl hLS rfl (by show 2 * 0 + _ ≤ 8; omega) hdg ⟨hc.1, hc.2⟩
  exact call_go hrun vS fun H1 locs1 r1 v1 => kk H1 locs1 r1 v1
theorem stV {a : Nat} (S : CallFix p m cd cc nL s args TB own) (hMet : MtB l g h y bytes maxL ret f lo (.ref a :: vals) B r) (hB : Stb g B) (bs : B s) (wy : Wy y bytes maxL ret vals.length) (hl : Cond.methodLink own index y ∈ TB) (hin : Cond.instanceMethod y ∈ TB) (hse : Cond.selects y.cls y y ∈ TB) (hob : ∃ cell : Cell, H[a]? = some cell ∧ cell.vm.isStatics = false ∧ s.vm.findClass y.cls = some cell.cls) (hR : f + 1 ≤ R.frames ∧ 8 + (maxL + 11) + lo ≤ R.locals) (vS : va_S (gA g) s.heap H locs) (rl : Rl g h H) (hLS : LS.size = nL) (hw : (rest.map fun v => v.category).sum ≤ 8) (hdg : decode cc pc = .ok (.invokevirtual index, 3)) (hc : cells ≤ R.cells ∧ slots ≤ R.slots)
    (kk : ∀ (H1 : Heap) (locs1 : List Loc), Rl g h H1 → va_S (gA g) s.heap H1 locs1 → W p l e R s m args below meth cd H1 locs1 cells slots Q (F0 m (pc + 3) LS ((r.map (tr g)).toList ++ rest))) : W p l e R s m args below meth cd H locs cells slots Q (F0 m pc LS (vals.reverse ++ .ref a :: rest)) := by
  have hts := S.2.2.2.2
  have hpre : ∀ U : State, U.heap = H → s.WarmedH U.vm → PcB g h (.ref a :: vals) B (Value.ref a :: vals).toArray U := fun U hU hW => ⟨rfl, by rw [hU]; exact rl, hB s U H locs bs vS hU hW⟩
  have hrun := va_runV (p := p) (l := l) (e := e) (R := R) (s := s) (m := m) (args := args) (below := below) (meth := meth) (c := cd) (H := H) (locs := locs) (cells := cells) (slots := slots) (g := F0 m pc LS (vals.reverse ++ .ref a :: rest)) (rest := rest) (C := y.cls) (b := a) (As := vals) S hMet ⟨callB_of vals.length hts (GoodIn.code wy.1) rfl rfl rfl (hts _ wy.2.1) (hts _ hl) wy.2.2 hR, hts _ hin, hts _ hse⟩ ⟨PcB_blind hB, hob, hpre⟩ rfl rfl hLS rfl (by show 2 * 0 + _ ≤ 8; omega) hdg ⟨hc.1, hc.2⟩
  exact call_go hrun vS fun H1 locs1 r1 v1 => kk H1 locs1 r1 v1
/-- what a return owes -/
theorem qB {v : Int32} (rl : Rl g h H) (vS : va_S (gA g) s.heap H locs) : ∀ t : State, t.heap = H → s.WarmedH t.vm → QcR g (some (.int v)) h args s (.returned (some (.int v))) t := fun t ht _ => ⟨rfl, by rw [ht]; exact rl, vS.F ht⟩
theorem qBv (rl : Rl g h H) (vS : va_S (gA g) s.heap H locs) : ∀ t : State, t.heap = H → s.WarmedH t.vm → QcR g none h args s (.returned none) t := fun t ht _ => ⟨rfl, by rw [ht]; exact rl, vS.F ht⟩
end Bd

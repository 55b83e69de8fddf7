/-! ===== THE ABSTRACT MACHINE: a heap of numbers by address and slot, a run by fuel, over the code tables ===== -/
/-- tags, lengths, ints, longs, references (0: null), next address, slots used -/
abbrev AH : Type := (Nat → Nat) × (Nat → Nat) × (Nat → Nat → Int32) × (Nat → Nat → Int64) × (Nat → Nat → Nat) × Nat × Nat
def hT (h : AH) : Nat → Nat := h.1
def hL (h : AH) : Nat → Nat := h.2.1
def hI (h : AH) : Nat → Nat → Int32 := h.2.2.1
def hJ (h : AH) : Nat → Nat → Int64 := h.2.2.2.1
def hR (h : AH) : Nat → Nat → Nat := h.2.2.2.2.1
def hN (h : AH) : Nat := h.2.2.2.2.2.1
def hS (h : AH) : Nat := h.2.2.2.2.2.2
def up2 {α : Type} (f : Nat → Nat → α) (a k : Nat) (v : α) : Nat → Nat → α := fun x => if x = a then (fun y => if y = k then v else f a y) else f x
def sI (h : AH) (a k : Nat) (v : Int32) : AH := (hT h, hL h, up2 (hI h) a k v, hJ h, hR h, hN h, hS h)
def sJ (h : AH) (a k : Nat) (v : Int64) : AH := (hT h, hL h, hI h, up2 (hJ h) a k v, hR h, hN h, hS h)
def sR (h : AH) (a k : Nat) (v : Nat) : AH := (hT h, hL h, hI h, hJ h, up2 (hR h) a k v, hN h, hS h)
/-- a new cell: its tag, its length, its slots -/
def nw (h : AH) (t n sl : Nat) : AH := (va_up (hT h) (hN h) t, va_up (hL h) (hN h) n, va_up (hI h) (hN h) (fun _ => 0), va_up (hJ h) (hN h) (fun _ => 0), va_up (hR h) (hN h) (fun _ => 0), hN h + 1, hS h + sl)
def inb (i : Int32) (n : Nat) : Bool := decide (0 ≤ i) && decide (i.toNatClampNeg < n)
theorem inb_in {i : Int32} {n : Nat} (h : inb i n = true) : vp_in i n := by
  simp only [inb, Bool.and_eq_true, decide_eq_true_eq] at h
  intro q
  rcases q with q | q
  · rw [Int32.lt_iff_toInt_lt] at q
    rw [Int32.le_iff_toInt_le] at h
    exact absurd h.1 (by omega)
  · omega
def lk : List (Nat × Instr × Nat × List Nat) → Nat → Option (Instr × Nat × List Nat)
  | [], _ => none
  | (p, e) :: t, pc => if p = pc then some e else lk t pc
def lkT : List (Nat × List (Nat × Instr × Nat × List Nat)) → Nat → List (Nat × Instr × Nat × List Nat)
  | [], _ => []
  | (p, e) :: t, c => if p = c then e else lkT t c
def ct (c pc : Nat) : Option (Instr × Nat × List Nat) := lk (lkT LT c) pc
abbrev MInfo : Type := MethodName × ByteArray × Nat × Option FieldType × Nat × Nat × Nat × Nat
def lkM : List (Nat × MInfo) → Nat → Option MInfo
  | [], _ => none
  | (p, e) :: t, c => if p = c then some e else lkM t c
def mi (c : Nat) : Option MInfo := lkM MI c
def mL (c : Nat) : Nat := match mi c with
  | some e => e.2.2.1
  | none => 0
theorem lk_mem : ∀ {t : List (Nat × Instr × Nat × List Nat)} {pc : Nat} {e : Instr × Nat × List Nat}, lk t pc = some e → (pc, e) ∈ t
  | [], _, _, h => by cases h
  | (p, e0) :: t, pc, e, h => by
    unfold lk at h
    split at h
    · next hp => cases h; subst hp; exact List.mem_cons_self
    · exact List.mem_cons_of_mem _ (lk_mem h)
theorem lkT_mem : ∀ {t : List (Nat × List (Nat × Instr × Nat × List Nat))} {c : Nat} {x : Nat × Instr × Nat × List Nat}, x ∈ lkT t c → (c, lkT t c) ∈ t
  | [], _, _, h => by cases h
  | (p, e0) :: t, c, x, h => by
    unfold lkT at h ⊢
    split at h
    · next hp => rw [if_pos hp]; subst hp; exact List.mem_cons_self
    · next hp => rw [if_neg hp]; exact List.mem_cons_of_mem _ (lkT_mem h)
theorem lkM_mem : ∀ {t : List (Nat × MInfo)} {c : Nat} {e : MInfo}, lkM t c = some e → (c, e) ∈ t
  | [], _, _, h => by cases h
  | (p, e0) :: t, c, e, h => by
    unfold lkM at h
    split at h
    · next hp => cases h; subst hp; exact List.mem_cons_self
    · exact List.mem_cons_of_mem _ (lkM_mem h)
theorem ct_mem {c pc : Nat} {e : Instr × Nat × List Nat} (h : ct c pc = some e) : ∃ t, (c, t) ∈ LT ∧ (pc, e) ∈ t :=
  ⟨_, lkT_mem (lk_mem h), lk_mem h⟩
/-! one step of locals and stack -/
def cat2 (v : Value) : Bool := match v with
  | .long _ => true
  | .double _ => true
  | _ => false
def sto (ls : List Value) (i : Nat) (v : Value) : Option (List Value) := if i < ls.length ∧ (i = 0 ∨ cat2 (ls.getD (i - 1) .null) = false) then some (ls.set i v) else none
def sto2 (ls : List Value) (i : Nat) (v : Value) : Option (List Value) := if i + 1 < ls.length ∧ (i = 0 ∨ cat2 (ls.getD (i - 1) .null) = false) then some ((ls.set i v).set (i + 1) (.retAddr 0)) else none
abbrev LSt : Type := Nat × List Value × List Value
def op2i (f : Int32 → Int32 → Int32) (pc : Nat) (ls : List Value) : List Value → Option LSt
  | .int y :: .int x :: r => some (pc, ls, .int (f x y) :: r)
  | _ => none
def op2d (f : Int32 → Int32 → Int32) (pc : Nat) (ls : List Value) : List Value → Option LSt
  | .int y :: .int x :: r => if y = 0 then none else some (pc, ls, .int (f x y) :: r)
  | _ => none
def op2l (f : Int64 → Int64 → Int64) (pc : Nat) (ls : List Value) : List Value → Option LSt
  | .long y :: .long x :: r => some (pc, ls, .long (f x y) :: r)
  | _ => none
def opli (f : Int64 → Int32 → Int64) (pc : Nat) (ls : List Value) : List Value → Option LSt
  | .int y :: .long x :: r => some (pc, ls, .long (f x y) :: r)
  | _ => none
def ldI (pc : Nat) (ls : List Value) (i : Nat) (st : List Value) : Option LSt := match ls[i]? with
  | some (.int x) => some (pc, ls, .int x :: st)
  | _ => none
def ldL (pc : Nat) (ls : List Value) (i : Nat) (st : List Value) : Option LSt := match ls[i]? with
  | some (.long x) => some (pc, ls, .long x :: st)
  | _ => none
def ldA (pc : Nat) (ls : List Value) (i : Nat) (st : List Value) : Option LSt := match ls[i]? with
  | some (.ref x) => some (pc, ls, .ref x :: st)
  | _ => none
def stI (pc : Nat) (ls : List Value) (i : Nat) : List Value → Option LSt
  | .int x :: r => (sto ls i (.int x)).map (fun l => (pc, l, r))
  | _ => none
def stL (pc : Nat) (ls : List Value) (i : Nat) : List Value → Option LSt
  | .long x :: r => (sto2 ls i (.long x)).map (fun l => (pc, l, r))
  | _ => none
def stA (pc : Nat) (ls : List Value) (i : Nat) : List Value → Option LSt
  | .ref x :: r => (sto ls i (.ref x)).map (fun l => (pc, l, r))
  | _ => none
def cndb : _root_.Jvm.ClassFile.Cond → Int32 → Int32 → Bool
  | .eq, x, y => decide (x = y)
  | .ne, x, y => decide (¬ x = y)
  | .lt, x, y => decide (x < y)
  | .ge, x, y => decide (y ≤ x)
  | .gt, x, y => decide (y < x)
  | .le, x, y => decide (x ≤ y)
def br1 (c : _root_.Jvm.ClassFile.Cond) (pc : Nat) (off : Int) (info : List Nat) (ls : List Value) : List Value → Option LSt
  | .int x :: r => match info with
    | [t] => if (pc : Int) + off = (t : Int) then some (if cndb c x 0 = true then t else pc + 3, ls, r) else none
    | _ => none
  | _ => none
def br2 (c : _root_.Jvm.ClassFile.Cond) (pc : Nat) (off : Int) (info : List Nat) (ls : List Value) : List Value → Option LSt
  | .int y :: .int x :: r => match info with
    | [t] => if (pc : Int) + off = (t : Int) then some (if cndb c x y = true then t else pc + 3, ls, r) else none
    | _ => none
  | _ => none
def tsw (pc : Nat) (d lo hi : Int) (offs : Array Int) (ls : List Value) : List Value → Option LSt
  | .int x :: r => match (if x.toInt < lo ∨ hi < x.toInt then some d else offs[(x.toInt - lo).toNat]?) with
    | some off => if 0 ≤ (pc : Int) + off then some (((pc : Int) + off).toNat, ls, r) else none
    | none => none
  | _ => none
def lsw (pc : Nat) (d : Int) (ps : Array (Int × Int)) (ls : List Value) : List Value → Option LSt
  | .int x :: r => if (ps.toList.zip (ps.toList.drop 1)).all (fun (a, next) => a.1 < next.1) = true ∧ 0 ≤ (pc : Int) + Op.lookupswitch.offset ps.toList d x.toInt then some (((pc : Int) + Op.lookupswitch.offset ps.toList d x.toInt).toNat, ls, r) else none
  | _ => none
def lstep (i : Instr) (info : List Nat) (pc : Nat) (ls st : List Value) : Option LSt := match i with
  | .iconst n => some (pc + 1, ls, .int (Int32.ofInt n) :: st)
  | .bipush n => some (pc + 2, ls, .int (Int8.ofInt n).toInt32 :: st)
  | .sipush n => some (pc + 3, ls, .int (Int16.ofInt n).toInt32 :: st)
  | .lconst n => some (pc + 1, ls, .long (Int64.ofNat (n : Nat)) :: st)
  | .ldc _ => match info with
    | v :: _ => some (pc + 2, ls, .int (nI v) :: st)
    | _ => none
  | .ldc_w _ => match info with
    | v :: _ => some (pc + 3, ls, .int (nI v) :: st)
    | _ => none
  | .ldc2_w _ => match info with
    | v :: _ => some (pc + 3, ls, .long (lN v) :: st)
    | _ => none
  | .iload k => ldI (pc + 2) ls k st
  | .iload_n k => ldI (pc + 1) ls k st
  | .lload k => ldL (pc + 2) ls k st
  | .lload_n k => ldL (pc + 1) ls k st
  | .aload k => ldA (pc + 2) ls k st
  | .aload_n k => ldA (pc + 1) ls k st
  | .istore k => stI (pc + 2) ls k st
  | .istore_n k => stI (pc + 1) ls k st
  | .lstore k => stL (pc + 2) ls k st
  | .lstore_n k => stL (pc + 1) ls k st
  | .astore k => stA (pc + 2) ls k st
  | .astore_n k => stA (pc + 1) ls k st
  | .iinc k n => match ls[k]? with
    | some (.int x) => (sto ls k (.int (x + Int32.ofInt n))).map (fun l => (pc + 3, l, st))
    | _ => none
  | .iadd => op2i (· + ·) (pc + 1) ls st
  | .isub => op2i (· - ·) (pc + 1) ls st
  | .imul => op2i (· * ·) (pc + 1) ls st
  | .idiv => op2d (· / ·) (pc + 1) ls st
  | .irem => op2d (fun x y => x - x / y * y) (pc + 1) ls st
  | .iand => op2i (· &&& ·) (pc + 1) ls st
  | .ior => op2i (· ||| ·) (pc + 1) ls st
  | .ixor => op2i (· ^^^ ·) (pc + 1) ls st
  | .ishl => op2i (fun x y => x <<< (y &&& 31)) (pc + 1) ls st
  | .ishr => op2i (fun x y => x >>> (y &&& 31)) (pc + 1) ls st
  | .iushr => op2i (fun x y => (x.toUInt32 >>> (y.toUInt32 &&& Int32.toUInt32 31)).toInt32) (pc + 1) ls st
  | .ladd => op2l (· + ·) (pc + 1) ls st
  | .land => op2l (· &&& ·) (pc + 1) ls st
  | .lor => op2l (· ||| ·) (pc + 1) ls st
  | .lshl => opli (fun x y => x <<< (y.toInt64 &&& 63)) (pc + 1) ls st
  | .lshr => opli (fun x y => x >>> (y.toInt64 &&& 63)) (pc + 1) ls st
  | .i2b => match st with
    | .int x :: r => some (pc + 1, ls, .int x.toInt8.toInt32 :: r)
    | _ => none
  | .i2l => match st with
    | .int x :: r => some (pc + 1, ls, .long x.toInt64 :: r)
    | _ => none
  | .lcmp => match st with
    | .long y :: .long x :: r => some (pc + 1, ls, .int (lg_cmp x y) :: r)
    | _ => none
  | .dup => match st with
    | v :: r => if v.category = 1 then some (pc + 1, ls, v :: v :: r) else none
    | _ => none
  | .dup2 => match st with
    | v :: w :: r => if v.category = 1 ∧ w.category = 1 then some (pc + 1, ls, v :: w :: v :: w :: r) else none
    | _ => none
  | .pop => match st with
    | v :: r => if v.category = 1 then some (pc + 1, ls, r) else none
    | _ => none
  | .ifCond c off => br1 c pc off info ls st
  | .if_icmp c off => br2 c pc off info ls st
  | .goto off => match info with
    | [t] => if (pc : Int) + off = (t : Int) then some (t, ls, st) else none
    | _ => none
  | .tableswitch d lo hi offs => tsw pc d lo hi offs ls st
  | .lookupswitch d ps => lsw pc d ps ls st
  | _ => none
def ilen (i : Instr) (info : List Nat) : Nat := match i with
  | .bipush _ => 2
  | .sipush _ => 3
  | .ldc _ => 2
  | .ldc_w _ => 3
  | .ldc2_w _ => 3
  | .iload _ => 2
  | .lload _ => 2
  | .aload _ => 2
  | .istore _ => 2
  | .lstore _ => 2
  | .astore _ => 2
  | .iinc _ _ => 3
  | .ifCond _ _ => 3
  | .if_icmp _ _ => 3
  | .goto _ => 3
  | .tableswitch _ _ _ _ => info.headD 0
  | .lookupswitch _ _ => info.headD 0
  | .getfield _ => 3
  | .putfield _ => 3
  | .new _ => 3
  | .newarray _ => 2
  | .invokespecial _ => 3
  | .invokevirtual _ => 3
  | .invokestatic _ => 3
  | _ => 1
/-! one step on the heap: the new stack, the new heap -/
abbrev HSt : Type := List Value × AH
def getf (ci k kd : Nat) (h : AH) : List Value → Option HSt
  | .ref a :: r => if hT h a = ci + 1 then some ((if kd = 1 then Value.long (hJ h a k) else if kd = 2 then Value.ref (hR h a k) else Value.int (hI h a k)) :: r, h) else none
  | _ => none
def putf (ci k kd : Nat) (h : AH) : List Value → Option HSt
  | .int x :: .ref a :: r => if hT h a = ci + 1 ∧ (kd = 0 ∨ (kd = 3 ∧ (x = 0 ∨ x = 1))) then some (r, sI h a k x) else none
  | .long x :: .ref a :: r => if hT h a = ci + 1 ∧ kd = 1 then some (r, sJ h a k x) else none
  | .ref x :: .ref a :: r => if hT h a = ci + 1 ∧ kd = 2 then some (r, sR h a k x) else none
  | _ => none
def aldI (h : AH) : List Value → Option HSt
  | .int i :: .ref a :: r => if (hT h a = 100 ∨ hT h a = 110) ∧ inb i (hL h a) = true then some (.int (hI h a i.toNatClampNeg) :: r, h) else none
  | _ => none
def aldB (h : AH) : List Value → Option HSt
  | .int i :: .ref a :: r => if (hT h a = 101 ∨ hT h a = 102) ∧ inb i (hL h a) = true then some (.int (hI h a i.toNatClampNeg) :: r, h) else none
  | _ => none
def aldJ (h : AH) : List Value → Option HSt
  | .int i :: .ref a :: r => if hT h a = 103 ∧ inb i (hL h a) = true then some (.long (hJ h a i.toNatClampNeg) :: r, h) else none
  | _ => none
def astI (h : AH) : List Value → Option HSt
  | .int x :: .int i :: .ref a :: r => if hT h a = 100 ∧ inb i (hL h a) = true then some (r, sI h a i.toNatClampNeg x) else none
  | _ => none
def astB (h : AH) : List Value → Option HSt
  | .int x :: .int i :: .ref a :: r => if (hT h a = 101 ∨ hT h a = 102) ∧ inb i (hL h a) = true then some (r, sI h a i.toNatClampNeg (if hT h a = 101 then vp_nar .byte x else vp_nar .boolean x)) else none
  | _ => none
def astJ (h : AH) : List Value → Option HSt
  | .long x :: .int i :: .ref a :: r => if hT h a = 103 ∧ inb i (hL h a) = true then some (r, sJ h a i.toNatClampNeg x) else none
  | _ => none
def alen (h : AH) : List Value → Option HSt
  | .ref a :: r => if hT h a = 100 ∨ hT h a = 101 ∨ hT h a = 102 ∨ hT h a = 103 ∨ hT h a = 110 then some (.int (nI (hL h a)) :: r, h) else none
  | _ => none
def newa (t : Nat) (h : AH) : List Value → Option HSt
  | .int n :: r => if 0 ≤ n ∧ n.toNatClampNeg ≤ 1048576 ∧ (t = 100 ∨ t = 101 ∨ t = 102 ∨ t = 103) then some (.ref (hN h) :: r, nw h t n.toNatClampNeg n.toNatClampNeg) else none
  | _ => none
def obin (h : AH) : List Value → Option HSt
  | .ref a :: r => if a ≠ 0 ∧ (r.map fun v => v.category).sum ≤ 8 then some (r, h) else none
  | _ => none
def math (op : Nat) (h : AH) : List Value → Option HSt
  | .int y :: .int x :: r => if (r.map fun v => v.category).sum ≤ 8 then (if op = 0 then some (.int (if x < y then y else x) :: r, h) else if op = 1 then some (.int (if y < x then y else x) :: r, h) else none) else none
  | .long y :: .long x :: r => if (r.map fun v => v.category).sum ≤ 8 ∧ op = 2 then some (.long (if y < x then y else x) :: r, h) else none
  | _ => none
def hstep (i : Instr) (info : List Nat) (st : List Value) (h : AH) : Option HSt := match i with
  | .getfield _ => match info with
    | [ci, k, kd, _] => getf ci k kd h st
    | _ => none
  | .putfield _ => match info with
    | [ci, k, kd, _, _] => putf ci k kd h st
    | _ => none
  | .iaload => aldI h st
  | .baload => aldB h st
  | .laload => aldJ h st
  | .iastore => astI h st
  | .bastore => astB h st
  | .lastore => astJ h st
  | .arraylength => alen h st
  | .newarray _ => match info with
    | [t, _] => newa t h st
    | _ => none
  | .new _ => match info with
    | [ci, n, _, _, _] => some (.ref (hN h) :: st, nw h (ci + 1) 0 n)
    | _ => none
  | .invokespecial _ => obin h st
  | .invokestatic _ => match info with
    | op :: _ => math op h st
    | _ => none
  | _ => none
def retv (i : Instr) (info : List Nat) (h : AH) : List Value → Option (Option Value × AH)
  | [] => if i = .return_ then some (none, h) else none
  | [.int x] => if i = .ireturn ∧ (info = [0] ∨ (info = [1] ∧ (x = 0 ∨ x = 1))) then some (some (.int x), h) else none
  | [.long x] => if i = .lreturn then some (some (.long x), h) else none
  | [.ref x] => if i = .areturn then some (some (.ref x), h) else none
  | _ => none
/-- the receiver: of a class by its tag; a new object -/
def rcv (k t : Nat) (h : AH) : List Value → Bool
  | .ref a :: _ => k == 0 || (k == 1 && decide (hT h a = t)) || (k == 2 && decide (a ≠ 0))
  | _ => k == 0
def popc (info : List Nat) (st : List Value) (h : AH) : Option (Nat × List Value × List Value) := match info with
  | c :: n :: k :: t :: _ => if n ≤ st.length ∧ ((st.drop n).map fun v => v.category).sum ≤ 8 ∧ rcv k t h (st.take n).reverse = true then some (c, (st.take n).reverse, st.drop n) else none
  | _ => none
/-- the locals at a method's entry -/
def lsl (av : List Value) : List Value := av.flatMap fun v => if v.category = 2 then [v, .retAddr 0] else [v]
def lent (av : List Value) (n : Nat) : List Value := lsl av ++ List.replicate (n - (lsl av).length) (.retAddr 0)
/-- behind a throw: one cell more, that nobody looks at -/
def thr (h : AH) : AH := nw h 99 0 6
def rowOK (h : AH) (a n : Nat) : Bool := decide (hT h a = 100) && decide (n ≤ hL h a)
/-- what the law's own thing(), tree() need of the heap -/
def primOK (h : AH) (x o : Nat) : Bool := decide (hT h x = 12) && decide (hT h (hR h x 2) = 4) && decide (hT h o = 103) && decide (0 < hL h o) && decide (hI h (hR h x 2) 0 ≤ 14) &&
  rowOK h (hR h (hR h x 2) 5) 14 && rowOK h (hR h (hR h x 2) 6) 14 && rowOK h (hR h (hR h x 2) 7) 14 && rowOK h (hR h (hR h x 2) 11) 14 && rowOK h (hR h (hR h x 2) 12) 14
/-- of the NET at n: what thing(k, w) answers -/
def thingV (h : AH) (n : Nat) (k w : Int32) : Int32 :=
  if w = 0 then hI h (hR h n 5) k.toNatClampNeg
  else if w = 1 then (hI h n 1 >>> (k &&& 31)) &&& 1
  else if w = 2 then (hI h n 2 >>> (k &&& 31)) &&& 1
  else if w = 3 then (hI h n 3 >>> (k &&& 31)) &&& 1
  else if w = 4 then hI h (hR h n 6) k.toNatClampNeg
  else hI h (hR h n 7) k.toNatClampNeg
def treeV (h : AH) (n : Nat) (k w : Int32) : Int32 := if w = 0 then hI h (hR h n 11) k.toNatClampNeg else hI h (hR h n 12) k.toNatClampNeg
def prim (c : Nat) (av : List Value) (h : AH) : Option (Option Value × AH) := match av with
  | [.ref x, .int k, .int w, .ref o] => if primOK h x o = true then
      (if c = 901 then (if 0 ≤ k ∧ k < hI h (hR h x 2) 0 ∧ 0 ≤ w ∧ w ≤ 5 then some (some (.int 0), sJ h o 0 (thingV h (hR h x 2) k w).toInt64) else some (some (.int 1), thr h))
       else if c = 902 then (if 0 ≤ k ∧ k < hI h (hR h x 2) 0 ∧ 0 ≤ w ∧ w ≤ 1 then some (some (.int 0), sJ h o 0 (treeV h (hR h x 2) k w).toInt64) else some (some (.int 1), thr h))
       else none) else none
  | _ => none
def run : Nat → Nat → Nat → List Value → List Value → AH → Option (Option Value × AH)
  | 0, _, _, _, _, _ => none
  | n + 1, m, pc, ls, st, h => match ct m pc with
    | none => none
    | some (i, cat, info) => match cat with
      | 0 => (lstep i info pc ls st).bind (fun q => run n m q.1 q.2.1 q.2.2 h)
      | 1 => (hstep i info st h).bind (fun q => run n m (pc + ilen i info) ls q.1 q.2)
      | 2 => retv i info h st
      | 3 => (popc info st h).bind (fun q => (if 900 ≤ q.1 then prim q.1 q.2.1 h else if (lsl q.2.1).length ≤ mL q.1 then run n q.1 0 (lent q.2.1 (mL q.1)) [] h else none).bind (fun z => run n m (pc + 3) ls (z.1.toList ++ q.2.2) z.2))
      | _ => match info with
        | [v, pc'] => if (st.map fun v => v.category).sum ≤ 8 then run n m pc' ls (.int (nI v) :: st) h else none
        | _ => none
def runM (n c : Nat) (av : List Value) (h : AH) : Option (Option Value × AH) := if 900 ≤ c then prim c av h else if (lsl av).length ≤ mL c then run n c 0 (lent av (mL c)) [] h else none
section RunRows
variable {n m pc : Nat} {ls st : List Value} {h : AH} {i : Instr} {info : List Nat}
theorem run_0 (hc : ct m pc = some (i, 0, info)) : run (n + 1) m pc ls st h = (lstep i info pc ls st).bind (fun q => run n m q.1 q.2.1 q.2.2 h) := by
  simp only [run, hc]
theorem run_1 (hc : ct m pc = some (i, 1, info)) : run (n + 1) m pc ls st h = (hstep i info st h).bind (fun q => run n m (pc + ilen i info) ls q.1 q.2) := by
  simp only [run, hc]
theorem run_2 (hc : ct m pc = some (i, 2, info)) : run (n + 1) m pc ls st h = retv i info h st := by
  simp only [run, hc]
theorem run_3 (hc : ct m pc = some (i, 3, info)) : run (n + 1) m pc ls st h = (popc info st h).bind (fun q => (runM n q.1 q.2.1 h).bind (fun z => run n m (pc + 3) ls (z.1.toList ++ q.2.2) z.2)) := by
  simp only [run, hc, runM]
theorem run_4 {k v pc' : Nat} (hc : ct m pc = some (i, k + 4, [v, pc'])) : run (n + 1) m pc ls st h = if (st.map fun v => v.category).sum ≤ 8 then run n m pc' ls (.int (nI v) :: st) h else none := by
  simp only [run, hc]
end RunRows
theorem run_mono : ∀ (n m pc : Nat) (ls st : List Value) (h : AH) (r : Option Value × AH), run n m pc ls st h = some r → run (n + 1) m pc ls st h = some r
  | 0, _, _, _, _, _, _, e => by cases e
  | n + 1, m, pc, ls, st, h, r, e => by
    cases hc : ct m pc with
    | none => simp only [run, hc] at e; cases e
    | some x =>
      obtain ⟨i, cat, info⟩ := x
      match cat, hc with
      | 0, hc =>
        rw [run_0 hc] at e ⊢
        cases hl : lstep i info pc ls st with
        | none => rw [hl] at e; cases e
        | some q => rw [hl] at e; exact run_mono n _ _ _ _ _ _ e
      | 1, hc =>
        rw [run_1 hc] at e ⊢
        cases hl : hstep i info st h with
        | none => rw [hl] at e; cases e
        | some q => rw [hl] at e; exact run_mono n _ _ _ _ _ _ e
      | 2, hc => rw [run_2 hc] at e ⊢; exact e
      | 3, hc =>
        rw [run_3 hc] at e ⊢
        cases hl : popc info st h with
        | none => rw [hl] at e; cases e
        | some q =>
          rw [hl] at e
          simp only [Option.bind_some] at e ⊢
          cases hz : runM n q.1 q.2.1 h with
          | none => rw [hz] at e; cases e
          | some z =>
            rw [hz] at e
            have hz' : runM (n + 1) q.1 q.2.1 h = some z := by
              unfold runM at hz ⊢
              split
              · next h9 => rw [if_pos h9] at hz; exact hz
              · next h9 =>
                rw [if_neg h9] at hz
                split
                · next h8 => rw [if_pos h8] at hz; exact run_mono n _ _ _ _ _ _ hz
                · next h8 => rw [if_neg h8] at hz; cases hz
            rw [hz']
            exact run_mono n _ _ _ _ _ _ e
      | k + 4, hc =>
        match info, hc with
        | [v, pc'], hc =>
          rw [run_4 hc] at e ⊢
          split at e
          · next h8 => rw [if_pos h8]; exact run_mono n _ _ _ _ _ _ e
          · cases e
        | [], hc => simp only [run, hc] at e; cases e
        | [_], hc => simp only [run, hc] at e; cases e
        | _ :: _ :: _ :: _, hc => simp only [run, hc] at e; cases e
theorem run_le {n n' m pc : Nat} {ls st : List Value} {h : AH} {r : Option Value × AH} (hn : n ≤ n') (e : run n m pc ls st h = some r) : run n' m pc ls st h = some r := by
  induction hn with
  | refl => exact e
  | step _ ih => exact run_mono _ _ _ _ _ _ _ ih
theorem runM_le {n n' c : Nat} {av : List Value} {h : AH} {r : Option Value × AH} (hn : n ≤ n') (e : runM n c av h = some r) : runM n' c av h = some r := by
  unfold runM at e ⊢
  split
  · next h9 => rw [if_pos h9] at e; exact e
  · next h9 =>
    rw [if_neg h9] at e
    split
    · next h8 => rw [if_pos h8] at e; exact run_le hn e
    · next h8 => rw [if_neg h8] at e; cases e
/-! what holds behind a run -/
def WP (m pc : Nat) (ls st : List Value) (h : AH) (Q : Option Value → AH → Prop) : Prop := ∃ n r h', run n m pc ls st h = some (r, h') ∧ Q r h'
def WPM (c : Nat) (av : List Value) (h : AH) (Q : Option Value → AH → Prop) : Prop := ∃ n r h', runM n c av h = some (r, h') ∧ Q r h'
section WPRows
variable {m pc : Nat} {ls st : List Value} {h : AH} {i : Instr} {info : List Nat} {Q : Option Value → AH → Prop}
theorem WP_0 (hc : ct m pc = some (i, 0, info)) {q : LSt} (hl : lstep i info pc ls st = some q) : WP m pc ls st h Q ↔ WP m q.1 q.2.1 q.2.2 h Q := by
  constructor
  · rintro ⟨n, r, h', e, hq⟩
    cases n with
    | zero => cases e
    | succ n =>
      rw [run_0 hc, hl] at e
      exact ⟨n, r, h', e, hq⟩
  · rintro ⟨n, r, h', e, hq⟩
    exact ⟨n + 1, r, h', by rw [run_0 hc, hl]; exact e, hq⟩
theorem WP_1 (hc : ct m pc = some (i, 1, info)) {len : Nat} (hn : ilen i info = len) : WP m pc ls st h Q ↔ ∃ q, hstep i info st h = some q ∧ WP m (pc + len) ls q.1 q.2 Q := by
  subst hn
  constructor
  · rintro ⟨n, r, h', e, hq⟩
    cases n with
    | zero => cases e
    | succ n =>
      rw [run_1 hc] at e
      cases hl : hstep i info st h with
      | none => rw [hl] at e; cases e
      | some q => rw [hl] at e; exact ⟨q, rfl, n, r, h', e, hq⟩
  · rintro ⟨q, hl, n, r, h', e, hq⟩
    exact ⟨n + 1, r, h', by rw [run_1 hc, hl]; exact e, hq⟩
theorem WP_2 (hc : ct m pc = some (i, 2, info)) : WP m pc ls st h Q ↔ ∃ q, retv i info h st = some q ∧ Q q.1 q.2 := by
  constructor
  · rintro ⟨n, r, h', e, hq⟩
    cases n with
    | zero => cases e
    | succ n => rw [run_2 hc] at e; exact ⟨_, e, hq⟩
  · rintro ⟨q, hl, hq⟩
    exact ⟨1, q.1, q.2, by rw [run_2 hc, hl], hq⟩
theorem WP_3 (hc : ct m pc = some (i, 3, info)) {c : Nat} {av rest : List Value} (hl : popc info st h = some (c, av, rest)) : WP m pc ls st h Q ↔ WPM c av h (fun r h' => WP m (pc + 3) ls (r.toList ++ rest) h' Q) := by
  constructor
  · rintro ⟨n, r, h', e, hq⟩
    cases n with
    | zero => cases e
    | succ n =>
      rw [run_3 hc, hl] at e
      simp only [Option.bind_some] at e
      cases hz : runM n c av h with
      | none => rw [hz] at e; cases e
      | some z => rw [hz] at e; exact ⟨n, z.1, z.2, hz, n, r, h', e, hq⟩
  · rintro ⟨n, r1, h1, hz, n2, r, h', e, hq⟩
    refine ⟨(n + n2) + 1, r, h', ?_, hq⟩
    rw [run_3 hc, hl]
    simp only [Option.bind_some]
    rw [runM_le (Nat.le_add_right n n2) hz]
    exact run_le (Nat.le_add_left n2 n) e
theorem WP_4 {k v pc' : Nat} (hc : ct m pc = some (i, k + 4, [v, pc'])) (h8 : (st.map fun v => v.category).sum ≤ 8) : WP m pc ls st h Q ↔ WP m pc' ls (.int (nI v) :: st) h Q := by
  constructor
  · rintro ⟨n, r, h', e, hq⟩
    cases n with
    | zero => cases e
    | succ n => rw [run_4 hc, if_pos h8] at e; exact ⟨n, r, h', e, hq⟩
  · rintro ⟨n, r, h', e, hq⟩
    exact ⟨n + 1, r, h', by rw [run_4 hc, if_pos h8]; exact e, hq⟩
theorem WPM_in {c : Nat} {av l0 : List Value} (hc : c < 900) (h1 : (lsl av).length ≤ mL c) (h2 : lent av (mL c) = l0) : WPM c av h Q ↔ WP c 0 l0 [] h Q := by
  subst h2
  have e : ∀ n, runM n c av h = run n c 0 (lent av (mL c)) [] h := fun n => by unfold runM; rw [if_neg (by omega), if_pos h1]
  simp only [WPM, WP, e]
theorem WPM_mono {c : Nat} {av : List Value} {Q' : Option Value → AH → Prop} (hw : WPM c av h Q) (hq : ∀ r h', Q r h' → Q' r h') : WPM c av h Q' := by
  obtain ⟨n, r, h', e, q⟩ := hw
  exact ⟨n, r, h', e, hq _ _ q⟩
theorem WP_mono {Q' : Option Value → AH → Prop} (hw : WP m pc ls st h Q) (hq : ∀ r h', Q r h' → Q' r h') : WP m pc ls st h Q' := by
  obtain ⟨n, r, h', e, q⟩ := hw
  exact ⟨n, r, h', e, hq _ _ q⟩
end WPRows
/-- a run has one end -/
theorem run_det {n n' m pc : Nat} {ls st : List Value} {h : AH} {r r' : Option Value × AH} (e : run n m pc ls st h = some r) (e' : run n' m pc ls st h = some r') : r = r' := by
  have h1 := run_le (Nat.le_add_right n n') e
  have h2 := run_le (Nat.le_add_left n' n) e'
  exact Option.some.inj (h1.symm.trans h2)
theorem runM_det {n n' c : Nat} {av : List Value} {h : AH} {r r' : Option Value × AH} (e : runM n c av h = some r) (e' : runM n' c av h = some r') : r = r' := by
  have h1 := runM_le (Nat.le_add_right n n') e
  have h2 := runM_le (Nat.le_add_left n' n) e'
  exact Option.some.inj (h1.symm.trans h2)
/-- a method's answer and heap, known: its WPM is what follows -/
theorem WPM_of {c : Nat} {av : List Value} {h h0 : AH} {r0 : Option Value} (e : WPM c av h (fun r h' => r = r0 ∧ h' = h0)) (Q : Option Value → AH → Prop) : WPM c av h Q ↔ Q r0 h0 := by
  obtain ⟨n, r, h', e, rfl, rfl⟩ := e
  constructor
  · rintro ⟨n2, r2, h2, e2, q⟩
    have := runM_det e e2
    cases this
    exact q
  · exact fun q => ⟨n, _, _, e, q⟩

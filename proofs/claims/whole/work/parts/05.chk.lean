/-! ===== WHAT THE CODE TABLES SAY IS SO: decoding, links, words, by a program that the kernel runs ===== -/
def TB : List Cond := lw_tbl.filter goodWord
def isNest : Cond → Bool
  | .methodLinkNest _ _ _ _ => true
  | _ => false
def NW : List Cond := lw_tbl.filter isNest
def TBw (pl : Nat) (w : Cond) : Bool := decide (lw_tbl[pl]? = some w) && goodWord w
theorem TBw_in {pl : Nat} {w : Cond} (h : TBw pl w = true) : w ∈ TB := by
  simp only [TBw, Bool.and_eq_true, decide_eq_true_eq] at h
  exact List.mem_filter.mpr ⟨List.mem_of_getElem? h.1, h.2⟩
def NWw (pl : Nat) (w : Cond) : Bool := decide (lw_tbl[pl]? = some w) && isNest w
theorem NWw_in {pl : Nat} {w : Cond} (h : NWw pl w = true) : w ∈ NW := by
  simp only [NWw, Bool.and_eq_true, decide_eq_true_eq] at h
  exact List.mem_filter.mpr ⟨List.mem_of_getElem? h.1, h.2⟩
def kdD (d : String) : Nat := if d = "I" then 0 else if d = "J" then 1 else if d = "Z" then 3 else 2
def atag (a : ArrayType) : Nat := match a with
  | .int => 100
  | .byte => 101
  | .boolean => 102
  | .long => 103
  | _ => 0
def chk0 (own : String) (i : Instr) (info : List Nat) : Bool := match i with
  | .ldc ix => match info with
    | [v, pl] => TBw pl (.constant own ix (nI v))
    | _ => false
  | .ldc_w ix => match info with
    | [v, pl] => TBw pl (.constant own ix (nI v))
    | _ => false
  | .ldc2_w ix => match info with
    | [v, pl] => TBw pl (.constantLong own ix (lN v))
    | _ => false
  | _ => true
def chkG (own : String) (ix : Nat) (info : List Nat) : Bool := match info with
  | [ci, k, kd, pl] => match vwCl[ci]? with
    | some q => decide (k < q.2.2) && decide (kdD (q.2.1 k).2.2.1 = kd) && TBw pl (.fieldLink own ix (q.2.1 k).1 (q.2.1 k).2.1 (q.2.1 k).2.2.1)
    | none => false
  | _ => false
def chkP (own nm : String) (ix : Nat) (info : List Nat) : Bool := match info with
  | [ci, k, kd, fin, pl] => match vwCl[ci]? with
    | some q => decide (k < q.2.2) && decide (kdD (q.2.1 k).2.2.1 = kd) && TBw pl (.fieldLink own ix (q.2.1 k).1 (q.2.1 k).2.1 (q.2.1 k).2.2.1) && ((decide (fin = 0) && decide ((q.2.1 k).2.2.2 = false)) || (decide ((q.2.1 k).2.2.2 = true) && decide ((q.2.1 k).1 = own) && decide (nm = "<init>")))
    | none => false
  | _ => false
def chkN (own : String) (ix : Nat) (info : List Nat) : Bool := match info with
  | [ci, n, p1, p2, p3] => match vwCl[ci]? with
    | some q => decide (q.2.2 = n) && TBw p1 (.classLink own ix q.1) && TBw p2 (.instantiable q.1 q.2.2) && TBw p3 (.initialized q.1)
    | none => false
  | _ => false
def chk1 (own nm : String) (i : Instr) (info : List Nat) : Bool := match i with
  | .getfield ix => chkG own ix info
  | .putfield ix => chkP own nm ix info
  | .new ix => chkN own ix info
  | .newarray a => match info with
    | [t, pl] => decide (atag a = t) && TBw pl (.arrayClass (newarray.typeOf a))
    | _ => false
  | .invokestatic ix => match info with
    | [0, p1, p2, p3, p4] => TBw p1 (.methodLink own ix Lib.Math.max.name) && TBw p2 (.static Lib.Math.max.name) && TBw p3 (.initialized "java/lang/Math") && TBw p4 (.code Lib.Math.max.name Lib.Math.max.code 2 (some .int))
    | [1, p1, p2, p3, p4] => TBw p1 (.methodLink own ix Lib.Math.min.name) && TBw p2 (.static Lib.Math.min.name) && TBw p3 (.initialized "java/lang/Math") && TBw p4 (.code Lib.Math.min.name Lib.Math.min.code 2 (some .int))
    | [2, p1, p2, p3, p4] => TBw p1 (.methodLink own ix Lib.MathLoose.min_long.x) && TBw p2 (.static Lib.MathLoose.min_long.x) && TBw p3 (.initialized "java/lang/Math") && TBw p4 (.code Lib.MathLoose.min_long.x Lib.MathLoose.min_long.code 4 (some .long))
    | _ => false
  | .invokespecial ix => match info with
    | [p1, p2, p3] => TBw p1 (.methodLink own ix objectInit) && TBw p2 (.instanceMethod objectInit) && TBw p3 (.code objectInit ⟨#[0xb1]⟩ 1 none)
    | _ => false
  | _ => true
def isRefT (t : Option FieldType) : Bool := match t with
  | some (.object _) => true
  | some (.array _) => true
  | _ => false
def chk2 (ret : Option FieldType) (i : Instr) (info : List Nat) : Bool := match i with
  | .ireturn => (decide (info = [0]) && decide (ret = some .int)) || (decide (info = [1]) && decide (ret = some .boolean))
  | .lreturn => decide (ret = some .long)
  | .areturn => isRefT ret
  | .return_ => decide (ret = none)
  | _ => false
/-- a call: callee, how many arguments, kind, tag of the receiver, nest, places of link, kind, selects -/
def chk3 (own : String) (f lo : Nat) (i : Instr) (info : List Nat) : Bool := match info with
  | [c, n, k, t, ne, pl, pa, ps] => if 900 ≤ c then true else match mi c with
    | none => false
    | some (y, _, mx, ret, f', lo', _, _) =>
      decide (f' + 1 ≤ f) && decide (8 + (mx + 11) + lo' ≤ lo) &&
      (match i with
        | .invokestatic ix => (if ne = 0 then TBw pl (.methodLink own ix y) else NWw pl (.methodLinkNest own ix y "FewBowls")) && decide (k = 0) && TBw pa (.static y) && decide ((parseMethodDescriptor y.desc).map (fun d => d.parameters.length) = some n)
        | .invokevirtual ix => (if ne = 0 then TBw pl (.methodLink own ix y) else NWw pl (.methodLinkNest own ix y "FewBowls")) && decide (k = 1) && TBw pa (.instanceMethod y) && TBw ps (.selects y.cls y y) && decide ((parseMethodDescriptor y.desc).map (fun d => d.parameters.length + 1) = some n) && (match t with
          | 0 => false
          | ci + 1 => decide ((vwCl[ci]?).map (fun q => q.1) = some y.cls))
        | .invokespecial ix => (if ne = 0 then TBw pl (.methodLink own ix y) else NWw pl (.methodLinkNest own ix y "FewBowls")) && decide (k = 2) && TBw pa (.instanceMethod y) && decide ((parseMethodDescriptor y.desc).map (fun d => d.parameters.length + 1) = some n) && decide (y.name = "<init>") && decide (ret = none)
        | _ => false)
  | _ => false
def chkE (y : MethodName) (bs : ByteArray) (ret : Option FieldType) (f lo c : Nat) (e : Nat × Instr × Nat × List Nat) : Bool := decide (decode bs e.1 = .ok (e.2.1, ilen e.2.1 e.2.2.2)) && (match e.2.2.1 with
    | 0 => chk0 y.cls e.2.1 e.2.2.2
    | 1 => chk1 y.cls y.name e.2.1 e.2.2.2
    | 2 => chk2 ret e.2.1 e.2.2.2
    | 3 => chk3 y.cls f lo e.2.1 e.2.2.2
    | _ => decide (c = 92))
def okM (e : Nat × MInfo) : Bool := decide (24 ≤ e.2.2.2.2.2.2.1) && decide (1 ≤ e.2.2.2.2.2.1) && (decide (e.1 = lawC) || (TBw e.2.2.2.2.2.2.2.1 (.code e.2.1 e.2.2.1 e.2.2.2.1 e.2.2.2.2.1) && TBw e.2.2.2.2.2.2.2.2 (.initialized e.2.1.cls) && plainName e.2.1.cls && decide (e.2.1.cls ≠ "java/lang/invoke/MethodHandle") && decide (e.2.1.cls ≠ "java/lang/invoke/VarHandle")))

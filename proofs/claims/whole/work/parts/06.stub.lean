def isRT (t : FieldType) : Bool := match t with
  | .object _ => true
  | .array _ => true
  | _ => false
def ClsOK (C : String) (T : u_T) (N : Nat) (ty : Nat → FieldType) : Prop := (∀ w ∈ u_ws C T N, w ∈ TB) ∧ (∀ k, k < N → parseFieldDescriptor (T k).2.2.1 = some (ty k)) ∧ (∀ a, a < N → ∀ b, b < N → a ≠ b → (T a).2.1 ≠ (T b).2.1) ∧ (∀ k, k < N → (kdD (T k).2.2.1 = 0 ∧ ty k = .int) ∨ (kdD (T k).2.2.1 = 1 ∧ ty k = .long) ∨ (kdD (T k).2.2.1 = 3 ∧ ty k = .boolean) ∨ (kdD (T k).2.2.1 = 2 ∧ isRT (ty k) = true))
theorem cls_ok {ci : Nat} {q : vw_C} (h : vwCl[ci]? = some q) : ∃ ty, ClsOK q.1 q.2.1 q.2.2 ty := sorry
def TabOK (p : Nat × List (Nat × Instr × Nat × List Nat)) : Prop := ∃ e, mi p.1 = some e ∧ p.2.all (chkE e.1 e.2.1 e.2.2.2.1 e.2.2.2.2.1 e.2.2.2.2.2.1 p.1) = true
theorem LT_ok : ∀ p ∈ LT, TabOK p := sorry
theorem MI_ok : ∀ e ∈ MI, okM e = true := sorry

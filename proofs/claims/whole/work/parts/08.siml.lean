/-! ===== a step of locals and stack ===== -/
theorem op2i_inv {f : Int32 → Int32 → Int32} {pc : Nat} {ls st : List Value} {q : LSt} (h : op2i f pc ls st = some q) : ∃ x y r, st = .int y :: .int x :: r ∧ q = (pc, ls, .int (f x y) :: r) := by
  unfold op2i at h
  split at h
  · exact ⟨_, _, _, rfl, (Option.some.inj h).symm⟩
  · cases h
theorem op2d_inv {f : Int32 → Int32 → Int32} {pc : Nat} {ls st : List Value} {q : LSt} (h : op2d f pc ls st = some q) : ∃ x y r, st = .int y :: .int x :: r ∧ ¬ y = 0 ∧ q = (pc, ls, .int (f x y) :: r) := by
  unfold op2d at h
  split at h
  · split at h
    · cases h
    · next hy => exact ⟨_, _, _, rfl, hy, (Option.some.inj h).symm⟩
  · cases h
theorem op2l_inv {f : Int64 → Int64 → Int64} {pc : Nat} {ls st : List Value} {q : LSt} (h : op2l f pc ls st = some q) : ∃ x y r, st = .long y :: .long x :: r ∧ q = (pc, ls, .long (f x y) :: r) := by
  unfold op2l at h
  split at h
  · exact ⟨_, _, _, rfl, (Option.some.inj h).symm⟩
  · cases h
theorem opli_inv {f : Int64 → Int32 → Int64} {pc : Nat} {ls st : List Value} {q : LSt} (h : opli f pc ls st = some q) : ∃ x y r, st = .int y :: .long x :: r ∧ q = (pc, ls, .long (f x y) :: r) := by
  unfold opli at h
  split at h
  · exact ⟨_, _, _, rfl, (Option.some.inj h).symm⟩
  · cases h
theorem ldI_inv {pc i : Nat} {ls st : List Value} {q : LSt} (h : ldI pc ls i st = some q) : ∃ x, ls[i]? = some (.int x) ∧ q = (pc, ls, .int x :: st) := by
  unfold ldI at h
  split at h
  · next e => exact ⟨_, e, (Option.some.inj h).symm⟩
  · cases h
theorem ldL_inv {pc i : Nat} {ls st : List Value} {q : LSt} (h : ldL pc ls i st = some q) : ∃ x, ls[i]? = some (.long x) ∧ q = (pc, ls, .long x :: st) := by
  unfold ldL at h
  split at h
  · next e => exact ⟨_, e, (Option.some.inj h).symm⟩
  · cases h
theorem ldA_inv {pc i : Nat} {ls st : List Value} {q : LSt} (h : ldA pc ls i st = some q) : ∃ x, ls[i]? = some (.ref x) ∧ q = (pc, ls, .ref x :: st) := by
  unfold ldA at h
  split at h
  · next e => exact ⟨_, e, (Option.some.inj h).symm⟩
  · cases h
theorem map_inv {pc : Nat} {r : List Value} {o : Option (List Value)} {q : LSt} (h : o.map (fun l => (pc, l, r)) = some q) : ∃ l1, o = some l1 ∧ q = (pc, l1, r) := by
  cases o with
  | none => cases h
  | some l1 => exact ⟨l1, rfl, (Option.some.inj h).symm⟩
theorem stI_inv {pc i : Nat} {ls st : List Value} {q : LSt} (h : stI pc ls i st = some q) : ∃ x r l1, st = .int x :: r ∧ sto ls i (.int x) = some l1 ∧ q = (pc, l1, r) := by
  unfold stI at h
  split at h
  · obtain ⟨l1, h1, h2⟩ := map_inv h
    exact ⟨_, _, l1, rfl, h1, h2⟩
  · cases h
theorem stL_inv {pc i : Nat} {ls st : List Value} {q : LSt} (h : stL pc ls i st = some q) : ∃ x r l1, st = .long x :: r ∧ sto2 ls i (.long x) = some l1 ∧ q = (pc, l1, r) := by
  unfold stL at h
  split at h
  · obtain ⟨l1, h1, h2⟩ := map_inv h
    exact ⟨_, _, l1, rfl, h1, h2⟩
  · cases h
theorem stA_inv {pc i : Nat} {ls st : List Value} {q : LSt} (h : stA pc ls i st = some q) : ∃ x r l1, st = .ref x :: r ∧ sto ls i (.ref x) = some l1 ∧ q = (pc, l1, r) := by
  unfold stA at h
  split at h
  · obtain ⟨l1, h1, h2⟩ := map_inv h
    exact ⟨_, _, l1, rfl, h1, h2⟩
  · cases h
theorem br1_inv {c : _root_.Jvm.ClassFile.Cond} {pc : Nat} {off : Int} {info : List Nat} {ls st : List Value} {q : LSt} (h : br1 c pc off info ls st = some q) : ∃ x r t, st = .int x :: r ∧ (pc : Int) + off = ((t : Nat) : Int) ∧ q = (if cndb c x 0 = true then t else pc + 3, ls, r) := by
  unfold br1 at h
  split at h
  · split at h
    · split at h
      · next ht => exact ⟨_, _, _, rfl, ht, (Option.some.inj h).symm⟩
      · cases h
    · cases h
  · cases h
theorem br2_inv {c : _root_.Jvm.ClassFile.Cond} {pc : Nat} {off : Int} {info : List Nat} {ls st : List Value} {q : LSt} (h : br2 c pc off info ls st = some q) : ∃ x y r t, st = .int y :: .int x :: r ∧ (pc : Int) + off = ((t : Nat) : Int) ∧ q = (if cndb c x y = true then t else pc + 3, ls, r) := by
  unfold br2 at h
  split at h
  · split at h
    · split at h
      · next ht => exact ⟨_, _, _, _, rfl, ht, (Option.some.inj h).symm⟩
      · cases h
    · cases h
  · cases h
section SimL
variable {p : Program} {l : Launch} {e : Env} {R : Room} {s : State} {m : MethodId} {args : Array Value} {below : List Frame} {meth : Method} {c : Code} {H : Heap} {locs : List Loc} {cells slots : Nat} {Q : State → Prop}
variable {cc : ByteArray} {own : String} {pc nL : Nat} {LS : Array Slot} {ls st : List Value} {q : LSt} {info : List Nat}
theorem sim_ldA {len i : Nat} (g : GG) (hl : LH g LS nL ls) {x : Nat} (h1 : ls[i]? = some (.ref x)) (kn : x = 0 → LS[i]? = some (.val .null) → W p l e R s m args below meth c H locs cells slots Q (F0 m pc LS (.null :: trs g st)) → W p l e R s m args below meth c H locs cells slots Q (F0 m len LS (trs g st)))
    (kr : LS[i]? = some (.val (.ref (ro g x))) → W p l e R s m args below meth c H locs cells slots Q (F0 m pc LS (.ref (ro g x) :: trs g st)) → W p l e R s m args below meth c H locs cells slots Q (F0 m len LS (trs g st)))
    (k : W p l e R s m args below meth c H locs cells slots Q (F0 m pc LS (trs g (.ref x :: st)))) : W p l e R s m args below meth c H locs cells slots Q (F0 m len LS (trs g st)) := by
  have h2 := hl.2.2.2 i _ h1 (fun q => by intro z; cases z)
  have k' : W p l e R s m args below meth c H locs cells slots Q (F0 m pc LS (tr g (.ref x) :: trs g st)) := k
  by_cases hx0 : x = 0
  · subst hx0
    exact kn rfl h2 k'
  · rw [tr_ref hx0] at h2 k'
    exact kr h2 k'
theorem simL (g : GG) {i : Instr} (hx : p.tables.exec = Jvm.exec) (hb : c.code = cc) (hown : s.vm.findClass own = some m.cls) (hts : ∀ w ∈ TB, w.before args s = true) (hdg : decode cc pc = .ok (i, ilen i info)) (hck : chk0 own i info = true) (hl : LH g LS nL ls) (hst : lstep i info pc ls st = some q)
    (k : ∀ LS', LH g LS' nL q.2.1 → W p l e R s m args below meth c H locs cells slots Q (F0 m q.1 LS' (trs g q.2.2))) : W p l e R s m args below meth c H locs cells slots Q (F0 m pc LS (trs g st)) := by
  cases i with
  | iconst n => cases Option.some.inj hst; exact lv_iconst hx hb hdg rfl (k LS hl)
  | bipush n => cases Option.some.inj hst; exact lv_bipush hx hb hdg rfl (k LS hl)
  | sipush n => cases Option.some.inj hst; exact lv_sipush hx hb hdg rfl (k LS hl)
  | lconst n => cases Option.some.inj hst; exact lv_lconst hx hb hdg rfl (k LS hl)
  | ldc ix =>
    match info, hst, hck, hdg with
    | [v, pl], hst, hck, hdg => cases Option.some.inj hst; exact lv_ldc hx hb hown (hts _ (TBw_in hck)) hdg (k LS hl)
  | ldc_w ix =>
    match info, hst, hck, hdg with
    | [v, pl], hst, hck, hdg => cases Option.some.inj hst; exact lv_ldcw hx hb hown (hts _ (TBw_in hck)) hdg (k LS hl)
  | ldc2_w ix =>
    match info, hst, hck, hdg with
    | [v, pl], hst, hck, hdg => cases Option.some.inj hst; exact lv_ldc2 hx hb hown (hts _ (TBw_in hck)) hdg (k LS hl)
  | iload n => obtain ⟨x, h1, rfl⟩ := ldI_inv hst; exact lv_iload hx hb hdg (hl.2.2.2 _ _ h1 (fun q => by intro z; cases z)) (k LS hl)
  | iload_n n => obtain ⟨x, h1, rfl⟩ := ldI_inv hst; exact lv_iload_n hx hb hdg rfl (hl.2.2.2 _ _ h1 (fun q => by intro z; cases z)) (k LS hl)
  | lload n => obtain ⟨x, h1, rfl⟩ := ldL_inv hst; exact lv_lload hx hb hdg (hl.2.2.2 _ _ h1 (fun q => by intro z; cases z)) (k LS hl)
  | lload_n n => obtain ⟨x, h1, rfl⟩ := ldL_inv hst; exact lv_lload_n hx hb hdg rfl (hl.2.2.2 _ _ h1 (fun q => by intro z; cases z)) (k LS hl)
  | aload n =>
    obtain ⟨x, h1, rfl⟩ := ldA_inv hst
    exact sim_ldA g hl h1 (fun _ h2 k' => lv_aloadN hx hb hdg h2 k') (fun h2 k' => lv_aload hx hb hdg h2 k') (k LS hl)
  | aload_n n =>
    obtain ⟨x, h1, rfl⟩ := ldA_inv hst
    exact sim_ldA g hl h1 (fun _ h2 k' => lv_aload_nN hx hb hdg rfl h2 k') (fun h2 k' => lv_aload_n hx hb hdg rfl h2 k') (k LS hl)
  | istore n =>
    obtain ⟨x, r, l1, rfl, h1, rfl⟩ := stI_inv hst
    exact lv_istore hx hb hdg hl.has (by rw [← hl.2.2.1]; exact sto_lt h1) rfl (fun LS' h2 => k LS' (LH_1 hl h1 h2))
  | istore_n n =>
    obtain ⟨x, r, l1, rfl, h1, rfl⟩ := stI_inv hst
    exact lv_istore_n hx hb hdg rfl hl.has (by rw [← hl.2.2.1]; exact sto_lt h1) rfl (fun LS' h2 => k LS' (LH_1 hl h1 h2))
  | lstore n =>
    obtain ⟨x, r, l1, rfl, h1, rfl⟩ := stL_inv hst
    exact lv_lstore hx hb hdg hl.has (by rw [← hl.2.2.1]; exact sto2_lt h1) rfl (fun LS' h2 => k LS' (LH_2 hl h1 h2))
  | lstore_n n =>
    obtain ⟨x, r, l1, rfl, h1, rfl⟩ := stL_inv hst
    exact lv_lstore_n hx hb hdg rfl hl.has (by rw [← hl.2.2.1]; exact sto2_lt h1) rfl (fun LS' h2 => k LS' (LH_2 hl h1 h2))
  | astore n =>
    obtain ⟨x, r, l1, rfl, h1, rfl⟩ := stA_inv hst
    show W p l e R s m args below meth c H locs cells slots Q (F0 m pc LS (tr g (.ref x) :: trs g r))
    by_cases hx0 : x = 0
    · subst hx0
      exact lv_astoreN hx hb hdg hl.has (by rw [← hl.2.2.1]; exact sto_lt h1) rfl (fun LS' h2 => k LS' (LH_1 hl h1 h2))
    · rw [tr_ref hx0]
      exact lv_astore hx hb hdg hl.has (by rw [← hl.2.2.1]; exact sto_lt h1) rfl (fun LS' h2 => k LS' (LH_1 hl h1 (by rw [tr_ref hx0]; exact h2)))
  | astore_n n =>
    obtain ⟨x, r, l1, rfl, h1, rfl⟩ := stA_inv hst
    show W p l e R s m args below meth c H locs cells slots Q (F0 m pc LS (tr g (.ref x) :: trs g r))
    by_cases hx0 : x = 0
    · subst hx0
      exact lv_astore_nN hx hb hdg rfl hl.has (by rw [← hl.2.2.1]; exact sto_lt h1) rfl (fun LS' h2 => k LS' (LH_1 hl h1 h2))
    · rw [tr_ref hx0]
      exact lv_astore_n hx hb hdg rfl hl.has (by rw [← hl.2.2.1]; exact sto_lt h1) rfl (fun LS' h2 => k LS' (LH_1 hl h1 (by rw [tr_ref hx0]; exact h2)))
  | iinc n z =>
    have hst : (match ls[n]? with
      | some (.int x) => (sto ls n (.int (x + Int32.ofInt z))).map (fun l => (pc + 3, l, st))
      | _ => none) = some q := hst
    split at hst
    · next x e1 =>
      obtain ⟨l1, h1, rfl⟩ := map_inv hst
      obtain ⟨kk, hkk⟩ := List.getElem?_of_mem (asc_in (g := g) e1 (fun q => by intro z; cases z))
      exact lv_iinc hx hb hdg hl.has hkk rfl (by rw [← hl.2.2.1]; exact sto_lt h1) rfl (fun LS' h2 => k LS' (LH_1 hl h1 h2))
    · cases hst
  | iadd => obtain ⟨x, y, r, rfl, rfl⟩ := op2i_inv hst; exact lv_iadd hx hb hdg (k LS hl)
  | isub => obtain ⟨x, y, r, rfl, rfl⟩ := op2i_inv hst; exact lv_isub hx hb hdg (k LS hl)
  | imul => obtain ⟨x, y, r, rfl, rfl⟩ := op2i_inv hst; exact lv_imul hx hb hdg (k LS hl)
  | idiv => obtain ⟨x, y, r, rfl, hy, rfl⟩ := op2d_inv hst; exact lv_idiv hx hb hdg hy (k LS hl)
  | irem => obtain ⟨x, y, r, rfl, hy, rfl⟩ := op2d_inv hst; exact lv_irem hx hb hdg hy (k LS hl)
  | iand => obtain ⟨x, y, r, rfl, rfl⟩ := op2i_inv hst; exact lv_iand hx hb hdg (k LS hl)
  | ior => obtain ⟨x, y, r, rfl, rfl⟩ := op2i_inv hst; exact lv_ior hx hb hdg (k LS hl)
  | ixor => obtain ⟨x, y, r, rfl, rfl⟩ := op2i_inv hst; exact lv_ixor hx hb hdg (k LS hl)
  | ishl => obtain ⟨x, y, r, rfl, rfl⟩ := op2i_inv hst; exact lv_ishl hx hb hdg (k LS hl)
  | ishr => obtain ⟨x, y, r, rfl, rfl⟩ := op2i_inv hst; exact lv_ishr hx hb hdg (k LS hl)
  | iushr => obtain ⟨x, y, r, rfl, rfl⟩ := op2i_inv hst; exact lv_iushr hx hb hdg rfl (k LS hl)
  | ladd => obtain ⟨x, y, r, rfl, rfl⟩ := op2l_inv hst; exact lv_ladd hx hb hdg (k LS hl)
  | land => obtain ⟨x, y, r, rfl, rfl⟩ := op2l_inv hst; exact lv_land hx hb hdg (k LS hl)
  | lor => obtain ⟨x, y, r, rfl, rfl⟩ := op2l_inv hst; exact lv_lor hx hb hdg (k LS hl)
  | lshl => obtain ⟨x, y, r, rfl, rfl⟩ := opli_inv hst; exact lv_lshl hx hb hdg rfl (k LS hl)
  | lshr => obtain ⟨x, y, r, rfl, rfl⟩ := opli_inv hst; exact lv_lshr hx hb hdg rfl (k LS hl)
  | i2b =>
    match st, hst with
    | .int x :: r, hst => cases Option.some.inj hst; exact lv_i2b hx hb hdg rfl (k LS hl)
  | i2l =>
    match st, hst with
    | .int x :: r, hst => cases Option.some.inj hst; exact lv_i2l hx hb hdg rfl (k LS hl)
  | lcmp =>
    match st, hst with
    | .long y :: .long x :: r, hst => cases Option.some.inj hst; exact W.lcmp hx hb hdg (k LS hl)
  | dup =>
    match st, hst with
    | v :: r, hst =>
      have hst : (if v.category = 1 then some (pc + 1, ls, v :: v :: r) else none) = some q := hst
      split at hst
      · next hv => cases hst; exact lv_dup hx hb hdg (by rw [tr_cat]; exact hv) (k LS hl)
      · cases hst
  | dup2 =>
    match st, hst with
    | v :: w :: r, hst =>
      have hst : (if v.category = 1 ∧ w.category = 1 then some (pc + 1, ls, v :: w :: v :: w :: r) else none) = some q := hst
      split at hst
      · next hv => cases hst; exact lv_dup2_11 hx hb hdg (by rw [tr_cat]; exact hv.1) (by rw [tr_cat]; exact hv.2) (k LS hl)
      · cases hst
  | pop =>
    match st, hst with
    | v :: r, hst =>
      have hst : (if v.category = 1 then some (pc + 1, ls, r) else none) = some q := hst
      split at hst
      · next hv => cases hst; exact lv_pop hx hb hdg (by rw [tr_cat]; exact hv) (k LS hl)
      · cases hst
  | ifCond cd off =>
    obtain ⟨x, r, t, rfl, ht, rfl⟩ := br1_inv hst
    have kt : cndb cd x 0 = true → W p l e R s m args below meth c H locs cells slots Q (F0 m t LS (trs g r)) := fun z => by
      have h9 := k LS hl
      simp only [if_pos z] at h9
      exact h9
    have kf : ¬ cndb cd x 0 = true → W p l e R s m args below meth c H locs cells slots Q (F0 m (pc + 3) LS (trs g r)) := fun z => by
      have h9 := k LS hl
      simp only [if_neg z] at h9
      exact h9
    cases cd with
    | eq => exact lv_if_eq hx hb hdg ht (fun z => kt (decide_eq_true z)) (fun z => kf (fun y => z (of_decide_eq_true y)))
    | ne => exact lv_if_ne hx hb hdg ht (fun z => kt (decide_eq_true z)) (fun z => kf (fun y => (of_decide_eq_true y) z))
    | lt => exact lv_if_lt hx hb hdg ht (fun z => kt (decide_eq_true z)) (fun z => kf (fun y => z (of_decide_eq_true y)))
    | ge => exact lv_if_ge hx hb hdg ht (fun z => kt (decide_eq_true z)) (fun z => kf (fun y => z (of_decide_eq_true y)))
    | gt => exact lv_if_gt hx hb hdg ht (fun z => kt (decide_eq_true z)) (fun z => kf (fun y => z (of_decide_eq_true y)))
    | le => exact lv_if_le hx hb hdg ht (fun z => kt (decide_eq_true z)) (fun z => kf (fun y => z (of_decide_eq_true y)))
  | if_icmp cd off =>
    obtain ⟨x, y9, r, t, rfl, ht, rfl⟩ := br2_inv hst
    have kt : cndb cd x y9 = true → W p l e R s m args below meth c H locs cells slots Q (F0 m t LS (trs g r)) := fun z => by
      have h9 := k LS hl
      simp only [if_pos z] at h9
      exact h9
    have kf : ¬ cndb cd x y9 = true → W p l e R s m args below meth c H locs cells slots Q (F0 m (pc + 3) LS (trs g r)) := fun z => by
      have h9 := k LS hl
      simp only [if_neg z] at h9
      exact h9
    cases cd with
    | eq => exact lv_icmp_eq hx hb hdg ht (fun z => kt (decide_eq_true z)) (fun z => kf (fun y => z (of_decide_eq_true y)))
    | ne => exact lv_icmp_ne hx hb hdg ht (fun z => kt (decide_eq_true z)) (fun z => kf (fun y => (of_decide_eq_true y) z))
    | lt => exact lv_icmp_lt hx hb hdg ht (fun z => kt (decide_eq_true z)) (fun z => kf (fun y => z (of_decide_eq_true y)))
    | ge => exact lv_icmp_ge hx hb hdg ht (fun z => kt (decide_eq_true z)) (fun z => kf (fun y => z (of_decide_eq_true y)))
    | gt => exact lv_icmp_gt hx hb hdg ht (fun z => kt (decide_eq_true z)) (fun z => kf (fun y => z (of_decide_eq_true y)))
    | le => exact lv_icmp_le hx hb hdg ht (fun z => kt (decide_eq_true z)) (fun z => kf (fun y => z (of_decide_eq_true y)))
  | goto off =>
    match info, hst, hdg with
    | [t], hst, hdg =>
      have hst : (if (pc : Int) + off = (t : Int) then some (t, ls, st) else none) = some q := hst
      split at hst
      · next ht => cases hst; exact lv_goto hx hb hdg ht (k LS hl)
      · cases hst
  | tableswitch d lo hi offs =>
    match st, hst with
    | .int x :: r, hst =>
      have hst : (match (if x.toInt < lo ∨ hi < x.toInt then some d else offs[(x.toInt - lo).toNat]?) with
        | some off => if 0 ≤ (pc : Int) + off then some (((pc : Int) + off).toNat, ls, r) else none
        | none => none) = some q := hst
      by_cases ho : x.toInt < lo ∨ hi < x.toInt
      · rw [if_pos ho] at hst
        dsimp only at hst
        split at hst
        · next hp => cases hst; exact lv_tableOut hx hb hdg ho (Int.toNat_of_nonneg hp).symm (k LS hl)
        · cases hst
      · rw [if_neg ho] at hst
        cases hoff : offs[(x.toInt - lo).toNat]? with
        | none => rw [hoff] at hst; cases hst
        | some off =>
          rw [hoff] at hst
          dsimp only at hst
          split at hst
          · next hp => cases hst; exact lv_tableIn hx hb hdg (fun z => ho (Or.inl z)) (fun z => ho (Or.inr z)) hoff (Int.toNat_of_nonneg hp).symm (k LS hl)
          · cases hst
  | lookupswitch d ps =>
    match st, hst with
    | .int x :: r, hst =>
      have hst : (if (ps.toList.zip (ps.toList.drop 1)).all (fun (a, next) => a.1 < next.1) = true ∧ 0 ≤ (pc : Int) + Op.lookupswitch.offset ps.toList d x.toInt then some (((pc : Int) + Op.lookupswitch.offset ps.toList d x.toInt).toNat, ls, r) else none) = some q := hst
      split at hst
      · next hp => cases hst; exact lv_lookup hx hb hdg hp.1 rfl (Int.toNat_of_nonneg hp.2).symm (k LS hl)
      · cases hst
  | _ => cases hst
end SimL

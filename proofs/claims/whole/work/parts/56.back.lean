/-! ===== Shortest: the search back, step by step ===== -/
def SBI (L : List Act) (N b : Nat) (e : Nat → Bool) (z : SZ) (i : Nat) : Prop :=
  BD (sbS N b e) (sbE L N b) z.1 z.2.2 i ∧ CI L N b e (z.2.2.take i) 0 0 z.1 z.2.1 ∧ (∀ j x, z.2.2[j]? = some x → dv z.1 x ≤ j) ∧ (∀ x k, z.1 x = some k → x < N ∧ pc x ≤ b)
theorem CI.t0 {L : List Act} {N b : Nat} {e : Nat → Bool} {P : List Nat} {t0 t1 : Nat} {D : Nat → Option Nat} {C : Nat → Nat} (c : CI L N b e P t0 0 D C) : CI L N b e P t1 0 D C := by
  obtain ⟨c1, c2, c3⟩ := c
  have h : ∀ x k m, tmm L N b e P t1 0 x k m = tmm L N b e P t0 0 x k m := fun x k m => by
    unfold tmm
    cases aftL L N b m x with
    | none => rfl
    | some t => simp
  refine ⟨fun x k hx => ?_, fun x x1 x2 hx m t hm => ⟨(c2 x x1 x2 hx m t hm).1, fun q => absurd q.2 (Nat.not_lt_zero _)⟩, c3⟩
  rw [c1 x k hx]
  congr 1
  exact sm_congr _ fun m _ => (h x k m).symm
theorem SBI.step {L : List Act} {N b : Nat} {e : Nat → Bool} {z : SZ} {i t0 dt : Nat} (hw : ∀ a ∈ L, actW a) (s : SBI L N b e z i) (hq : z.2.2[i]? = some t0) (hd : z.1 t0 = some dt) : SBI L N b e (sbA L N b t0 dt (z.2.1 t0) z) (i + 1) := by
  obtain ⟨bd, ci, ix, bn⟩ := s
  have hdv : dv z.1 t0 = dt := dv_some hd
  have hlook := sbA_look N b t0 dt (z.2.1 t0) L z
  have hl1 : (sbA L N b t0 dt (z.2.1 t0) z).1 = ((L.filterMap (fun a => bef N b a t0)).foldl (look1 (dt + 1)) (z.1, z.2.2)).1 := congrArg Prod.fst hlook
  have hl2 : (sbA L N b t0 dt (z.2.1 t0) z).2.2 = ((L.filterMap (fun a => bef N b a t0)).foldl (look1 (dt + 1)) (z.1, z.2.2)).2 := congrArg Prod.snd hlook
  have bd' := bd.look hq (T := L.filterMap (fun a => bef N b a t0)) (fun t => Iff.rfl)
  rw [hdv, ← hl1, ← hl2] at bd'
  obtain ⟨nw, g1, g2, g3, g4, g5⟩ := look_adds (dt + 1) (L.filterMap (fun a => bef N b a t0)) (z.1, z.2.2)
  rw [← hl2] at g1
  rw [← hl1] at g4
  dsimp only at g1 g3 g4
  have ht0 := bn t0 dt hd
  have hil : i < z.2.2.length := by
    obtain ⟨h, -⟩ := List.getElem?_eq_some_iff.mp hq
    exact h
  have hP : t0 ∉ z.2.2.take i := fun hm => by
    obtain ⟨j, hj⟩ := List.getElem?_of_mem hm
    have hji : j < i := by
      obtain ⟨h, -⟩ := List.getElem?_eq_some_iff.mp hj
      rw [List.length_take] at h
      omega
    rw [List.getElem?_take_of_lt hji] at hj
    have hn := bd.1
    rw [List.nodup_iff_pairwise_ne, List.pairwise_iff_getElem] at hn
    obtain ⟨h1, e1⟩ := List.getElem?_eq_some_iff.mp hj
    obtain ⟨h2, e2⟩ := List.getElem?_eq_some_iff.mp hq
    exact hn j i h1 h2 hji (by rw [e1, e2])
  have hct : z.2.1 t0 = min MR (cnt L N b e dt t0) := CI.final hw bd ci hd (fun y hy => by rw [hq] at hy; cases hy; rw [hdv]; exact Nat.le_refl _)
  have hlow : ∀ k, k < dt → cnt L N b e k t0 = 0 := fun k hk => by
    have := (bd.dist hd).2 k hk
    rw [sb_gk hw] at this
    rcases Nat.eq_zero_or_pos (cnt L N b e k t0) with q | q
    · exact q
    · exact absurd ⟨ht0.1, ht0.2, q⟩ this
  have h1 : ∀ x k, z.1 x = some k → k ≤ dt + 1 ∧ x < N ∧ pc x ≤ b := fun x k hx => by
    have := bd.le1 hx t0 hq
    rw [hdv] at this
    exact ⟨this, bn x k hx⟩
  have hall := CI.all hw ht0 hP hct hlow L.length 0 z rfl h1 ci.t0
  rw [List.drop_zero] at hall
  have c := hall.resolve_right (Nat.not_lt_zero _)
  have htk : (sbA L N b t0 dt (z.2.1 t0) z).2.2.take (i + 1) = z.2.2.take i ++ [t0] := by
    rw [g1, List.take_append_of_le_length (by omega), List.take_add_one, hq]
    rfl
  refine ⟨bd', ?_, ?_, ?_⟩
  · rw [htk]
    obtain ⟨c1, c2, c3⟩ := c
    refine ⟨fun x k hx => ?_, fun x x1 x2 hx m t hm => ?_, c3⟩
    · rw [c1 x k hx]
      congr 1
      refine sm_congr _ fun m hm => ?_
      unfold tmm
      cases aftL L N b m x with
      | none => rfl
      | some t =>
        have : (t ∈ z.2.2.take i ∨ t = t0 ∧ m < L.length) ↔ (t ∈ z.2.2.take i ++ [t0] ∨ t = 0 ∧ m < 0) := by
          simp only [List.mem_append, List.mem_singleton, Nat.not_lt_zero, and_false, or_false, hm, and_true]
        simp only [this]
    · obtain ⟨q1, q2⟩ := c2 x x1 x2 hx m t hm
      refine ⟨fun q => ?_, fun q => absurd q.2 (Nat.not_lt_zero _)⟩
      have hml : m < L.length := by
        unfold aftL at hm
        rcases Nat.lt_or_ge m L.length with w | w
        · exact w
        · rw [List.getElem?_eq_none w] at hm
          cases hm
      rcases List.mem_append.mp q with w | w
      · exact q1 w
      · exact q2 ⟨List.mem_singleton.mp w, hml⟩
  · intro j x hx
    rw [g1] at hx
    have hxv : dv (sbA L N b t0 dt (z.2.1 t0) z).1 x = (if x ∈ nw then dt + 1 else dv z.1 x) := by
      unfold dv
      rw [g4 x]
      split <;> rfl
    rw [hxv]
    have hti := ix i t0 hq
    rw [hdv] at hti
    rcases Nat.lt_or_ge j z.2.2.length with w | w
    · rw [List.getElem?_append_left w] at hx
      have hnx : x ∉ nw := fun h => by
        have h9 := (g3 x h).1
        exact (bd.2.1 x).mpr (List.mem_of_getElem? hx) h9
      rw [if_neg hnx]
      exact ix j x hx
    · rw [List.getElem?_append_right w] at hx
      rw [if_pos (List.mem_of_getElem? hx)]
      omega
  · intro x k hx
    rw [g4 x] at hx
    by_cases w : x ∈ nw
    · obtain ⟨-, h9⟩ := g3 x w
      obtain ⟨a, ha, hb⟩ := List.mem_filterMap.mp h9
      obtain ⟨x1, x2, -⟩ := (bef_iff (hw a ha) ht0).mp hb
      exact ⟨x1, x2⟩
    · rw [if_neg w] at hx
      exact bn x k hx
/-- where the search begins -/
def z00 (N b : Nat) (e : Nat → Bool) : SZ := (fun x => if x < N ∧ (pc x ≤ b ∧ e x = true) then some 0 else none, fun _ => 1, (List.range N).filter (fun x => decide (pc x ≤ b) && e x))
theorem SBI.start (L : List Act) (N b : Nat) (e : Nat → Bool) : SBI L N b e (z00 N b e) 0 := by
  have hm : ∀ x, x ∈ (z00 N b e).2.2 ↔ x < N ∧ (pc x ≤ b ∧ e x = true) := fun x => by
    show x ∈ (List.range N).filter (fun x => decide (pc x ≤ b) && e x) ↔ _
    rw [List.mem_filter, List.mem_range, Bool.and_eq_true, decide_eq_true_eq]
  have hD : ∀ x, (z00 N b e).1 x = if x < N ∧ (pc x ≤ b ∧ e x = true) then some 0 else none := fun x => rfl
  have hdv : ∀ x, dv (z00 N b e).1 x = 0 := fun x => by
    unfold dv
    rw [hD x]
    split <;> rfl
  have h0 : ∀ x k, (z00 N b e).1 x = some k → k = 0 ∧ x < N ∧ (pc x ≤ b ∧ e x = true) := fun x k h => by
    rw [hD x] at h
    split at h
    · next q => cases h; exact ⟨rfl, q⟩
    · cases h
  refine ⟨⟨(List.nodup_range).filter _, fun x => ?_, fun x hx => ?_, fun x k hx => ?_, ?_, fun y _ x _ => by rw [hdv]; exact Nat.zero_le _, fun j x t hj => absurd hj (Nat.not_lt_zero _)⟩, ⟨fun x k hx => ?_, fun x x1 x2 hx m t hm => ⟨by simp, fun q => absurd q.2 (Nat.not_lt_zero _)⟩, fun x hx => rfl⟩, fun j x _ => by rw [hdv]; exact Nat.zero_le _, fun x k hx => ?_⟩
  · rw [hm x, hD x]
    by_cases q : x < N ∧ (pc x ≤ b ∧ e x = true)
    · simp [q]
    · rw [if_neg q]
      simp only [ne_eq, not_true_eq_false, false_iff]
      exact q
  · unfold sbS at hx
    rw [hD x, if_pos hx]
  · obtain ⟨rfl, h1, h2⟩ := h0 x k hx
    exact ⟨h1, h2⟩
  · refine List.pairwise_of_forall (fun x y => by rw [hdv]; exact Nat.zero_le _)
  · exact absurd (h0 x _ hx).1 (Nat.succ_ne_zero _)
  · obtain ⟨-, h1, h2, -⟩ := h0 x k hx
    exact ⟨h1, h2⟩
/-- the first row, by rising numbers -/
def stA1 (L : List Act) (N b : Nat) (e : Nat → Bool) (k s : Nat) (a : Act) : Bool := match aft N b a s with
  | some t => decide (0 < cnt L N b e k t)
  | none => false
def fRow (L : List Act) (N b : Nat) (e : Nat → Bool) : Nat → Nat → List Nat
  | 0, _ => []
  | k + 1, s => match L.find? (stA1 L N b e k s) with
    | some a => a.1 :: fRow L N b e k ((aft N b a s).getD 0)
    | none => []
/-- LEAST ACTS k, with so many rows -/
def LAc (L : List Act) (N b : Nat) (e : Nat → Bool) (k : Nat) : Prop := 0 < cnt L N b e k 0 ∧ ∀ j, j < k → cnt L N b e j 0 = 0
theorem LAc.uniq {L : List Act} {N b : Nat} {e : Nat → Bool} {k k' : Nat} (h : LAc L N b e k) (h' : LAc L N b e k') : k = k' := by
  rcases Nat.lt_trichotomy k k' with q | q | q
  · have := h'.2 k q
    have := h.1
    omega
  · exact q
  · have := h.2 k' q
    have := h'.1
    omega

/-! ===== THE FACE: what was kept is asked ===== -/
section Ff
variable {s : SG} {B M B' M' : Nat} {h h1 h2 : AH} {Q : Option Value → AH → Prop}
/-- a row asked at a place: what the class's four askers do -/
theorem atR_of {l : List Nat} {v : Int32} (hl : l.length < 2 ^ 31) : (v < 0 → atR l v = -1) ∧ (¬ v < 0 → nI l.length ≤ v → atR l v = -1) ∧ (¬ v < 0 → ¬ nI l.length ≤ v → ∃ j u, v = nI j ∧ j < l.length ∧ l[j]? = some u ∧ atR l v = nI u) := by
  refine ⟨fun q => ?_, fun _ q => ?_, fun q1 q2 => ?_⟩
  · unfold atR
    rw [if_neg (fun z => absurd q (Int32.not_lt.mpr z.1))]
  · unfold atR
    rw [if_neg (fun z => absurd z.2 (Int32.not_lt.mpr q))]
  · obtain ⟨j, hj, rfl⟩ := nI_of q1
    have hjl : j < l.length := (nI_ltI hj hl).mp (Int32.not_le.mp q2)
    obtain ⟨u, hu⟩ : ∃ u, l[j]? = some u := ⟨_, List.getElem?_eq_getElem hjl⟩
    refine ⟨j, u, rfl, hjl, hu, ?_⟩
    unfold atR
    rw [if_pos ⟨Int32.not_lt.mp q1, Int32.not_le.mp q2⟩, nI_clamp hj, hu, oI_some]
theorem f114 (x : ClS s B M h) (y : MoS s h) (ok : SOK s) (v : Int32) : PrI 114 [.ref 2, .int v] 185 [.ref 67, .int v] s B M h := by
  have c0 := x.1.1
  obtain ⟨r1, r2, r3, r4, r5⟩ := x.2.2.2.1
  have hT6 := x.1.tg.2.2.2.2.2
  have hL6 := x.1.ln.2.2.2.2.2
  have key : WPM 114 [.ref 2, .int v] h (fun r h1 => r = some (.int (atR (zR s).1 v)) ∧ h1 = h) := by
    obtain ⟨k1, k2, k3⟩ := atR_of (l := (zR s).1) (v := v) (by omega)
    rw [we114]
    by_cases q1 : v < 0
    · simp only [w114, q1, k1 q1, zz]
    · by_cases q2 : nI (zR s).1.length ≤ v
      · simp only [w114, c0, r1, q1, q2, k2 q1 q2, zz]
      · obtain ⟨j, u, rfl, hj, hu, e⟩ := k3 q1 q2
        have c1 : (nI j).toNatClampNeg = j := nI_clamp (by omega)
        have i1 : inb (nI j) (hL h (hR h 50 6)) = true := inb_nI (by omega) (by omega)
        have e2 := r5 j u hu
        simp only [w114, c0, r1, q1, q2, hT6, c1, i1, e2, e, zz]
  unfold PrI
  rw [WPM_of key]
  refine ⟨_, rfl, ?_⟩
  rw [s185 y.1 y.2.2.2.2.2.2.2.1]
  exact ⟨rfl, Nx.thr x y ok⟩
theorem f115 (x : ClS s B M h) (y : MoS s h) (ok : SOK s) : PrJ 115 [.ref 2] 186 [.ref 67] s B M h := by
  have c0 := x.1.1
  have r2 := x.2.2.2.1.2.1
  unfold PrJ
  rw [we115]
  simp only [w115, c0, r2]
  refine ⟨_, rfl, ?_⟩
  rw [s186 y.1, y.2.2.2.2.2.2.2.1.2.1]
  exact ⟨rfl, Nx.thr x y ok⟩
theorem f122 (x : ClS s B M h) (y : MoS s h) (ok : SOK s) : PrJ 122 [.ref 2] 197 [.ref 67] s B M h := by
  have c0 := x.1.1
  have r2 := x.2.2.2.2.1.2.1
  unfold PrJ
  rw [we122]
  simp only [w122, c0, r2]
  refine ⟨_, rfl, ?_⟩
  rw [s197 y.1, y.2.2.2.2.2.2.2.2.1.2.1]
  exact ⟨rfl, Nx.thr x y ok⟩
theorem f123 (x : ClS s B M h) (y : MoS s h) (ok : SOK s) (v : Int32) : PrI 123 [.ref 2, .int v] 198 [.ref 67, .int v] s B M h := by
  have c0 := x.1.1
  obtain ⟨r1, r2, r3, r5⟩ := x.2.2.2.2.1
  have key : WPM 123 [.ref 2, .int v] h (fun r h1 => r = some (.int (atR (zO s).1 v)) ∧ h1 = h) := by
    obtain ⟨k1, k2, k3⟩ := atR_of (l := (zO s).1) (v := v) (by omega)
    rw [we123]
    by_cases q1 : v < 0
    · simp only [w123, q1, k1 q1, zz]
    · by_cases q2 : nI (zO s).1.length ≤ v
      · simp only [w123, c0, r1, q1, q2, k2 q1 q2, zz]
      · obtain ⟨j, u, rfl, hj, hu, e⟩ := k3 q1 q2
        have c1 : (nI j).toNatClampNeg = j := nI_clamp (by omega)
        have i1 : inb (nI j) 14 = true := inb_nI (by omega) (by decide)
        have e2 := r5 j u hu
        simp only [w123, c0, r1, q1, q2, c1, i1, e2, e, zz]
  unfold PrI
  rw [WPM_of key]
  refine ⟨_, rfl, ?_⟩
  rw [s198 y.1 y.2.2.2.2.2.2.2.2.1]
  exact ⟨rfl, Nx.thr x y ok⟩
theorem f130 (x : ClS s B M h) (y : MoS s h) (ok : SOK s) (v : Int32) : PrI 130 [.ref 2, .int v] 212 [.ref 67, .int v] s B M h := by
  have c0 := x.1.1
  obtain ⟨r1, r3, r5, -⟩ := x.2.2.1.1
  have key : WPM 130 [.ref 2, .int v] h (fun r h1 => r = some (.int (atR (zP s) v)) ∧ h1 = h) := by
    obtain ⟨k1, k2, k3⟩ := atR_of (l := zP s) (v := v) (by omega)
    rw [we130]
    by_cases q1 : v < 0
    · simp only [w130, q1, k1 q1, zz]
    · by_cases q2 : nI (zP s).length ≤ v
      · simp only [w130, c0, r1, q1, q2, k2 q1 q2, zz]
      · obtain ⟨j, u, rfl, hj, hu, e⟩ := k3 q1 q2
        have c1 : (nI j).toNatClampNeg = j := nI_clamp (by omega)
        have i1 : inb (nI j) 60 = true := inb_nI (by omega) (by decide)
        have e2 := r5 j u hu
        simp only [w130, c0, r1, q1, q2, c1, i1, e2, e, zz]
  unfold PrI
  rw [WPM_of key]
  refine ⟨_, rfl, ?_⟩
  rw [s212 y.1 y.2.2.2.2.2.1]
  exact ⟨rfl, Nx.thr x y ok⟩
theorem f134 (x : ClS s B M h) (y : MoS s h) (ok : SOK s) (v : Int32) : PrI 134 [.ref 2, .int v] 216 [.ref 67, .int v] s B M h := by
  have c0 := x.1.1
  obtain ⟨r1, r3, r5⟩ := x.2.2.1.2.1
  have key : WPM 134 [.ref 2, .int v] h (fun r h1 => r = some (.int (atR (zK s) v)) ∧ h1 = h) := by
    obtain ⟨k1, k2, k3⟩ := atR_of (l := zK s) (v := v) (by omega)
    rw [we134]
    by_cases q1 : v < 0
    · simp only [w134, q1, k1 q1, zz]
    · by_cases q2 : nI (zK s).length ≤ v
      · simp only [w134, c0, r1, q1, q2, k2 q1 q2, zz]
      · obtain ⟨j, u, rfl, hj, hu, e⟩ := k3 q1 q2
        have c1 : (nI j).toNatClampNeg = j := nI_clamp (by omega)
        have i1 : inb (nI j) 60 = true := inb_nI (by omega) (by decide)
        have e2 := r5 j u hu
        simp only [w134, c0, r1, q1, q2, c1, i1, e2, e, zz]
  unfold PrI
  rw [WPM_of key]
  refine ⟨_, rfl, ?_⟩
  rw [s216 y.1 y.2.2.2.2.2.2.1]
  exact ⟨rfl, Nx.thr x y ok⟩
theorem f110 (x : ClS s B M h) (y : MoS s h) (ok : SOK s) : PrI 110 [.ref 2] 168 [.ref 67] s B M h := by
  have c0 := x.1.1
  have e := x.2.1.2.2.2.2.2.1
  unfold PrI
  rw [we110]
  simp only [w110, c0, e]
  refine ⟨_, rfl, ?_⟩
  rw [s168 y.1, y.2.2.2.2.1]
  exact ⟨rfl, Nx.thr x y ok⟩
theorem f111 (x : ClS s B M h) (y : MoS s h) (ok : SOK s) (v : Int32) (ip : Bool) : PrI 111 [.ref 2, .int v, .int (if ip = true then 1 else 0)] 174 [.ref 67, .int v, .int (if ip = true then 1 else 0)] s B M h := by
  have c0 := x.1.1
  have hn := x.net
  have n0 := x.n0
  unfold PrI
  rw [we111]
  by_cases q : 0 ≤ v ∧ v < nI (zn s)
  · have q' := q
    obtain ⟨k, hk, rfl⟩ := th_of ok.1.1 q
    have hn14 := ok.1.1
    have c1 : (nI k).toNatClampNeg = k := nI_clamp (by omega)
    have i1 : inb (nI k) 14 = true := inb_nI (by omega) (by decide)
    obtain ⟨-, -, -, b6, b7, -⟩ := x.2.1.2.2.1.2 k hk
    change hI h (hR h 2 2 + 6) k = nI (brc true (zQ s) k) at b6
    change hI h (hR h 2 2 + 7) k = nI (brc false (zQ s) k) at b7
    have fin : ∀ u, u = nI (brc (!ip) (zQ s) k) → WPM 174 [.ref 67, .int (nI k), .int (if ip = true then 1 else 0)] h (fun r' h2 => r' = some (.int u) ∧ Nx s B M h h2) := fun u hu => by
      refine s174 y.1 y.2.1.1 ok.1 hk fun h2 mb => ?_
      refine ⟨by rw [hu]; rfl, Nx.same x y ok MSm.rf (Nat.le_refl _) (Nat.le_refl _) mb ?_ (fun a z => by unfold mbA at z; omega) nP_in⟩
      unfold mset mbA mbS nP
      exact ⟨by omega, by omega, id, id, id, id⟩
    cases ip with
    | true =>
      simp only [w111, c0, hn, s24 hn, n0, if_pos q', mz, c1, i1, b7, if_true, zz]
      exact ⟨_, rfl, by have := fin _ rfl; simp only [if_true] at this; exact this⟩
    | false =>
      simp only [w111, c0, hn, s24 hn, n0, if_pos q', mz, c1, i1, b6, if_false, zz]
      exact ⟨_, rfl, by have := fin _ rfl; simp only [if_false, Bool.false_eq_true] at this; exact this⟩
  · simp only [w111, c0, hn, s24 hn, n0, if_neg q, mz, zz]
    refine ⟨_, rfl, ?_⟩
    rw [s174f y.1 y.2.1.1.1 ok.1.1 q]
    exact ⟨rfl, Nx.thr x y ok⟩
end Ff

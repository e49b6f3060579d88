/-! THE REFERENCE: drawing, the leaves -/
/-- the nodes I have got the mark m -/
def UsR (u w : Nat → Int32) (m : Int32) (I : List Nat) : Prop := ∀ i, w i = if i ∈ I then u i ||| m else u i
theorem UsR.put {u w : Nat → Int32} {m : Int32} {I : List Nat} (U : UsR u w m I) (r : Nat) : UsR u (va_up w r (w r ||| m)) m (I ++ [r]) := by
  intro i
  by_cases c : i = r
  · subst c
    rw [upd_eq, if_pos (List.mem_append_right _ List.mem_cons_self), U i]
    by_cases c2 : i ∈ I
    · rw [if_pos c2, Int32.or_assoc, Int32.or_self]
    · rw [if_neg c2]
  · rw [upd_ne c, U i]
    by_cases c2 : i ∈ I
    · rw [if_pos c2, if_pos (List.mem_append_left _ c2)]
    · rw [if_neg c2, if_neg (fun z => by
        rcases List.mem_append.mp z with z | z
        · exact c2 z
        · exact c (List.mem_singleton.mp z))]
def dW : Nat → Prop := fun a => a = 123 ∨ (143 ≤ a ∧ a ≤ 148)
def DFr (h h1 : Hp) : Prop := Fr dW h h1 ∧ ∀ i, i ≠ 31 → i ≠ 34 → gI h1 123 i = gI h 123 i
theorem DFr.rf {h : Hp} : DFr h h := ⟨Fr.rf, fun _ _ _ => rfl⟩
theorem DFr.tr {h h1 h2 : Hp} (a : DFr h h1) (b : DFr h1 h2) : DFr h h2 := ⟨a.1.tr b.1, fun i x y => by rw [b.2 i x y, a.2 i x y]⟩
theorem DFr.mA {h h1 : Hp} (K : DFr h h1) : Fr mA h h1 := K.1.wk (fun a x => by unfold dW at x; show 123 ≤ a; omega)
theorem DFr.mi {G : St} {h h1 : Hp} (K : DFr h h1) (M : MI h G) : MI h1 G := M.wk (K.1.wk (fun a x => by unfold dW at x; unfold mW; omega)) (K.2 2 (by decide) (by decide)) (K.2 5 (by decide) (by decide))
theorem DFr.c {h : Hp} {a k : Nat} {v : Int32} (h1 : 143 ≤ a) (h2 : a ≤ 148) : DFr h (sI h a k v) := ⟨Fr.sI (Or.inr ⟨h1, h2⟩), fun i _ _ => by rw [gI_sI_ne (by omega)]⟩
theorem DFr.lf {h h1 : Hp} (F : Fr lW h h1) (e : ∀ i, i ≠ 31 → gI h1 123 i = gI h 123 i) : DFr h h1 := ⟨F.wk (fun a x => by unfold lW at x; unfold dW; omega), fun i x _ => e i x⟩
theorem DFr.no {h h1 : Hp} (F : Fr tW h h1) (e : ∀ i, i ≠ 34 → gI h1 123 i = gI h 123 i) : DFr h h1 := ⟨F.wk (fun a x => by unfold tW at x; unfold dW; omega), fun i _ y => e i y⟩
section REF
variable {h : Hp}
theorem X10_dr7 (L : Lay h) {R : Nat → Int64} {D : List (Int64 × Int64)} (hR : ∀ p, p < 64 → gL h 139 p = R p) (A : RfL h D) (hD : D.length ≤ 64) {m : Int32} {Q : Int32 → Hp → Prop}
    (kk : ∀ h1, RfL h1 (dL R D) → (∀ j, j < 64 → gI h1 148 j = nI (dB3 R D j)) → UsR (gI h 147) (gI h1 147) m ((List.range 64).map (dB3 R D)) → DFr h h1 → gI h1 123 34 = gI h 123 34 → gI h1 145 = gI h 145 → gI h1 146 = gI h 146 → Tr (loopN (fun k s => f_X10_draws_51 k 123 m s.1 s.2.1 s.2.2) 5000 ((64 : Int32), (2 : Int32), h1)) Q) : Tr (loopN (fun k s => f_X10_draws_7 k 123 m s.1 s.2) 5000 ((0 : Int32), h)) Q := by
  refine Tr.up (N := 64) (J := fun q x => x.1 = nI q ∧ RfL x.2 (lvs (acts R) D q) ∧ (∀ j, j < q → gI x.2 148 j = nI (ixo (lvs (acts R) D q) (acts R j))) ∧ UsR (gI h 147) (gI x.2 147) m ((List.range q).map (fun j => ixo (lvs (acts R) D q) (acts R j))) ∧ DFr h x.2 ∧ gI x.2 123 34 = gI h 123 34 ∧ gI x.2 145 = gI h 145 ∧ gI x.2 146 = gI h 146) ?_ ?_ (p := 0) ⟨rfl, A, fun j hj => absurd hj (Nat.not_lt_zero _), fun i => rfl, DFr.rf, rfl, rfl, rfl⟩ (Nat.zero_le _) (by omega)
  · intro q x kc hq hJ hk'
    obtain ⟨x1, h1⟩ := x
    obtain ⟨e, A1, B1, U1, F1, c1, c2, c3⟩ := hJ
    dsimp only at e A1 B1 U1 F1 c1 c2 c3
    subst e
    dsimp only
    have L1 := F1.1.lay L
    have hl := lvs_len (acts R) D q
    have hS : gL h1 139 q = R q := by rw [F1.1.L (fun z => by unfold dW at z; omega)]; exact hR q hq
    refine Tr.neg (nI_ge (b := 64) hq (by decide)) (Tr.ck (Lo_123 L1) (Tr.gp (Lp_123_36 L1) (Tr.bd (X10_leafOf L1 A1 (by omega) hq hS) (fun r h2 z => ?_))))
    obtain ⟨er, A2, F2, g2⟩ := z
    have A2 : RfL h2 (lvs (acts R) D (q + 1)) := A2
    have er : r = nI (ixo (lvs (acts R) D (q + 1)) (acts R q)) := er
    subst er
    have L2 := F2.lay L1
    have hl2 := lvs_len (acts R) D (q + 1)
    have hid := ixo_lt (lvs_mem (acts R) D (show q < q + 1 by omega))
    generalize hn : ixo (lvs (acts R) D (q + 1)) (acts R q) = n at hid
    have o148 : gI h2 148 = gI h1 148 := F2.I (fun z => by unfold lW at z; omega)
    have o147 : gI h2 147 = gI h1 147 := F2.I (fun z => by unfold lW at z; omega)
    refine Tr.ca (La_148 L2 hq) ?_
    rw [nI_clamp (by omega)]
    have L3 : Lay (sI h2 148 q (nI n)) := L2
    refine Tr.ck (Lo_123 L3) (Tr.gp (Lp_123_35 L3) (Tr.gp (Lp_123_36 L3) (Tr.ca (La_148 L3 hq) ?_)))
    rw [gI_sI, upd_eq]
    refine Tr.nmx (Tr.ca (La_147 L3 (by omega)) (Tr.ca (La_147 L3 (by omega)) ?_))
    rw [nI_clamp (by omega), gI_sI_ne (by decide), o147]
    have same : ∀ j, j < q → ixo (lvs (acts R) D (q + 1)) (acts R j) = ixo (lvs (acts R) D q) (acts R j) := fun j hj => by
      rw [lvs_ix (acts R) D (m := j) (n := q) (k := q + 1) (by omega) (by omega)]
    have FF : DFr h1 (sI (sI h2 148 q (nI n)) 147 n (gI h1 147 n ||| m)) := ((DFr.lf F2 g2).tr (DFr.c (by decide) (by decide))).tr (DFr.c (by decide) (by decide))
    refine Tr.nmx (Tr.nmx (hk' _ ⟨nI_1 q, ⟨?_, fun i x hx => ?_⟩, fun j hj => ?_, ?_, F1.tr FF, ?_, ?_, ?_⟩))
    · dsimp only
      rw [gI_sI_ne (by decide), gI_sI_ne (by decide)]; exact A2.1
    · exact A2.2 i x hx
    · dsimp only
      rw [gI_sI_ne (by decide), gI_sI, o148]
      by_cases c : j = q
      · subst c; rw [upd_eq, hn]
      · rw [upd_ne c, same j (by omega)]; exact B1 j (by omega)
    · dsimp only
      rw [gI_sI, gI_sI_ne (by decide), o147]
      have u := U1.put n
      have el : (List.range (q + 1)).map (fun j => ixo (lvs (acts R) D (q + 1)) (acts R j)) = (List.range q).map (fun j => ixo (lvs (acts R) D q) (acts R j)) ++ [n] := by
        rw [List.range_succ, List.map_append, List.map_singleton, hn]
        congr 1
        exact List.map_congr_left (fun j hj => same j (List.mem_range.mp hj))
      rw [el]; exact u
    · dsimp only
      rw [gI_sI_ne (by decide), gI_sI_ne (by decide), g2 34 (by decide)]; exact c1
    · dsimp only
      rw [gI_sI_ne (by decide), gI_sI_ne (by decide), F2.I (fun z => by unfold lW at z; omega)]; exact c2
    · dsimp only
      rw [gI_sI_ne (by decide), gI_sI_ne (by decide), F2.I (fun z => by unfold lW at z; omega)]; exact c3
  · intro x kc hJ
    obtain ⟨x1, h1⟩ := x
    obtain ⟨e, A1, B1, U1, F1, c1, c2, c3⟩ := hJ
    dsimp only at e A1 B1 U1 F1 c1 c2 c3
    subst e
    dsimp only
    exact Tr.pos (nI_le (b := 64) (Nat.le_refl _) (by decide)) (kk h1 A1 B1 U1 F1 c1 c2 c3)
end REF

/-! THE REFERENCE: drawing, a layer -/
theorem TB.put {T : List TE} (K : TB T) {f g : Nat} {b : Nat → Nat} (hf : f < 3) (hb : ∀ v, v < 4 → b (4 * g + v) < 2 ^ 31) : TB (tst f b T g) := by
  unfold tst
  by_cases c : alq b g = true
  · rw [if_pos c]; exact K
  · rw [if_neg c]
    intro k e he
    rcases insA_sub (List.mem_of_getElem? he) with z | z
    · obtain ⟨i, hi⟩ := List.mem_iff_getElem?.mp z
      exact K i e hi
    · subst z
      exact ⟨hf, rfl, fun v hv => by rw [tsk_v f b g v hv]; exact hb v hv⟩
section REF
variable {h : Hp} {T : List TE} {f n : Nat} {b : Nat → Nat}
theorem X10_dr63 (L : Lay h) (R : RfT h T) (K : TB T) (hf : f < 3) (hn : 1 ≤ n ∧ n ≤ 16) (hlen : T.length + n ≤ 64) (hb : ∀ j, j < 4 * n → gI h 148 j = nI (b j) ∧ b j < 128 + T.length) {m : Int32} {u : Nat → Int32} {I : List Nat} (U : UsR u (gI h 147) m I) {k51 : (Int32 × Int32 × Hp) → Option (Int32 × Hp)} {Q : Int32 → Hp → Prop}
    (kk : ∀ h1, RfT h1 (tss f b T n) → TB (tss f b T n) → DFr h h1 → (∀ k, k < n → gI h1 148 k = nI (nid 128 f b (tss f b T n) k) ∧ nid 128 f b (tss f b T n) k < 128 + (tss f b T n).length) → UsR u (gI h1 147) m (I ++ (List.range n).map (nid 128 f b (tss f b T n))) → gI h1 123 31 = gI h 123 31 → gL h1 143 = gL h 143 → gL h1 144 = gL h 144 → Tr (k51 (nI n, nI f + (-1), h1)) Q) :
    Tr (loopN (fun kc x => f_X10_draws_63 k51 kc 123 m (nI n) (nI f) x.1 x.2) 5000 ((0 : Int32), h)) Q := by
  refine Tr.up (N := n) (J := fun k x => x.1 = nI k ∧ RfT x.2 (tss f b T k) ∧ TB (tss f b T k) ∧ DFr h x.2 ∧ (∀ j, j < k → gI x.2 148 j = nI (nid 128 f b (tss f b T k) j) ∧ nid 128 f b (tss f b T k) j < 128 + (tss f b T k).length) ∧ (∀ j, k ≤ j → gI x.2 148 j = gI h 148 j) ∧ UsR u (gI x.2 147) m (I ++ (List.range k).map (nid 128 f b (tss f b T k))) ∧ gI x.2 123 31 = gI h 123 31 ∧ gL x.2 143 = gL h 143 ∧ gL x.2 144 = gL h 144) ?_ ?_ (p := 0) ⟨rfl, R, K, DFr.rf, fun j hj => absurd hj (Nat.not_lt_zero _), fun _ _ => rfl, by show UsR u (gI h 147) m (I ++ []); rw [List.append_nil]; exact U, rfl, rfl, rfl⟩ (Nat.zero_le _) (by omega)
  · intro k x kc hk hJ hk'
    obtain ⟨x1, h1⟩ := x
    obtain ⟨e, R1, K1, F1, B1, B2, U1, c1, c2, c3⟩ := hJ
    dsimp only at e R1 K1 F1 B1 B2 U1 c1 c2 c3
    subst e
    dsimp only
    have L1 := F1.1.lay L
    have hl := tss_len f b T k
    obtain ⟨M, hM⟩ := tss_pre f b T (Nat.zero_le k)
    have hge : T.length ≤ (tss f b T k).length := by rw [hM, List.length_append]; exact Nat.le_add_right _ _
    have em : (4 : Int32) * nI k = nI (4 * k) := by rw [show (4 : Int32) = nI 4 from rfl, pk_mul]
    have hstep : tst f b (tss f b T k) k = tss f b T (k + 1) := rfl
    have hbl : Bl4 h1 b k := fun v hv => ⟨by rw [B2 _ (by omega)]; exact (hb _ (by omega)).1, by have := (hb (4 * k + v) (by omega)).2; omega⟩
    refine Tr.neg (nI_ge hk (by omega)) (Tr.ck (Lo_123 L1) (Tr.gp (Lp_123_36 L1) ?_))
    rw [em]
    refine Tr.bd (X10_nodeOver L1 R1 K1 (by omega) hf (by omega) hbl) (fun r h2 q => ?_)
    obtain ⟨er, R2, F2, g2⟩ := q
    have hid := nid_lt (o := 128) (f := f) (g := k) (b := b) (T := tss f b T k) (by have := (hb (4 * k) (by omega)).2; omega)
    have K2 := K1.put (f := f) (g := k) (b := b) hf (fun v hv => (hbl v hv).2)
    rw [hstep] at R2 hid K2 er
    have hl2 := tss_len f b T (k + 1)
    subst er
    have L2 := F2.lay L1
    have o148 : gI h2 148 = gI h1 148 := F2.I (fun z => by unfold tW at z; omega)
    have o147 : gI h2 147 = gI h1 147 := F2.I (fun z => by unfold tW at z; omega)
    generalize hn2 : nid 128 f b (tss f b T (k + 1)) k = w at hid
    refine Tr.ca (La_148 L2 (by omega)) ?_
    rw [nI_clamp (by omega)]
    have L3 : Lay (sI h2 148 k (nI w)) := L2
    refine Tr.ck (Lo_123 L3) (Tr.gp (Lp_123_35 L3) (Tr.gp (Lp_123_36 L3) (Tr.ca (La_148 L3 (by omega)) ?_)))
    rw [gI_sI, upd_eq]
    refine Tr.nmx (Tr.ca (La_147 L3 (by omega)) (Tr.ca (La_147 L3 (by omega)) ?_))
    rw [nI_clamp (by omega), gI_sI_ne (by decide), o147]
    have same : ∀ j, j < k → nid 128 f b (tss f b T (k + 1)) j = nid 128 f b (tss f b T k) j := fun j hj => by
      rw [nid_pre 128 f b T (m := j) (n := k) (k := k + 1) (by omega) (by omega)]
    have FF : DFr h1 (sI (sI h2 148 k (nI w)) 147 w (gI h1 147 w ||| m)) := ((DFr.no F2 g2).tr (DFr.c (by decide) (by decide))).tr (DFr.c (by decide) (by decide))
    have gb : gI (sI (sI h2 148 k (nI w)) 147 w (gI h1 147 w ||| m)) 148 = va_up (gI h1 148) k (nI w) := by rw [gI_sI_ne (by decide), gI_sI, o148]
    refine Tr.nmx (Tr.nmx (hk' _ ⟨nI_1 k, ?_, K2, F1.tr FF, fun j hj => ?_, fun j hj => ?_, ?_, ?_, ?_, ?_⟩))
    · dsimp only
      unfold RfT
      rw [gI_sI_ne (a := 147) (b := 123) (by decide), gI_sI_ne (a := 148) (b := 123) (by decide), gI_sI_ne (a := 147) (b := 145) (by decide), gI_sI_ne (a := 148) (b := 145) (by decide), gI_sI_ne (a := 147) (b := 146) (by decide), gI_sI_ne (a := 148) (b := 146) (by decide)]
      exact R2
    · dsimp only
      rw [gb]
      by_cases e : j = k
      · subst e; rw [upd_eq, hn2]; exact ⟨rfl, hid⟩
      · rw [upd_ne e, same j (by omega)]
        have h1 := B1 j (by omega)
        have h2 := (tst_len (f := f) (g := k) (b := b) (T := tss f b T k)).1
        rw [hstep] at h2
        exact ⟨h1.1, by omega⟩
    · dsimp only
      rw [gb, upd_ne (by omega)]
      exact B2 j (by omega)
    · dsimp only
      rw [gI_sI, gI_sI_ne (by decide), o147]
      have uu := U1.put w
      have el : I ++ (List.range (k + 1)).map (nid 128 f b (tss f b T (k + 1))) = (I ++ (List.range k).map (nid 128 f b (tss f b T k))) ++ [w] := by
        rw [List.range_succ, List.map_append, List.map_singleton, hn2, List.append_assoc]
        congr 2
        exact List.map_congr_left (fun j hj => same j (List.mem_range.mp hj))
      rw [el]; exact uu
    · dsimp only
      rw [gI_sI_ne (by decide), gI_sI_ne (by decide), g2 31 (by decide)]; exact c1
    · dsimp only
      rw [gL_sI, gL_sI, F2.L (fun z => by unfold tW at z; omega)]; exact c2
    · dsimp only
      rw [gL_sI, gL_sI, F2.L (fun z => by unfold tW at z; omega)]; exact c3
  · intro x kc hJ
    obtain ⟨x1, h1⟩ := x
    obtain ⟨e, R1, K1, F1, B1, B2, U1, c1, c2, c3⟩ := hJ
    dsimp only at e R1 K1 F1 B1 B2 U1 c1 c2 c3
    subst e
    dsimp only
    refine Tr.pos (nI_le (Nat.le_refl _) (by omega)) (Tr.nmx ?_)
    exact kk h1 R1 K1 F1 B1 U1 c1 c2 c3
end REF

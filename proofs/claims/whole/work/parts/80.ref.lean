/-! THE REFERENCE: a block's node -/
/-- the next v are as the first -/
def eqB (b : Nat → Nat) (g : Nat) : Nat → Bool
  | 0 => true
  | v + 1 => eqB b g v && decide (b (4 * g + (v + 1)) = b (4 * g))
section REF
variable {h : Hp} {T : List TE} {f g : Nat} {b : Nat → Nat}
def NoQ (h : Hp) (T : List TE) (f g : Nat) (b : Nat → Nat) : Int32 → Hp → Prop := fun r h1 => r = nI (nid 128 f b (tst f b T g) g) ∧ RfT h1 (tst f b T g) ∧ Fr tW h h1 ∧ ∀ i, i ≠ 34 → gI h1 123 i = gI h 123 i
theorem X10_no85 (L : Lay h) (R : RfT h T) (hT : T.length < 64) (hf : f < 3) (hg : 4 * g + 3 < 64) (B : Bl4 h b g) (ha : alq b g = false) : Tr (f_X10_nodeOver_85 123 (nI f) (nI (4 * g)) (nI (ixo T (tsk f b g))) h) (NoQ h T f g b) := by
  have hle := ixo_le T (tsk f b g)
  obtain ⟨r1, r2⟩ := R
  have hts : tst f b T g = insA T (tsk f b g) := if_neg (by rw [ha]; decide)
  have hnid : nid 128 f b (insA T (tsk f b g)) g = 128 + ixo (insA T (tsk f b g)) (tsk f b g) := if_neg (by rw [ha]; decide)
  unfold NoQ
  rw [hts, hnid]
  generalize hj : ixo T (tsk f b g) = j at hle
  refine Tr.ck (Lo_123 L) (Tr.gp (Lp_123_32 L) (Tr.ca (La_145 L (by omega)) ?_))
  rw [nI_clamp (by omega)]
  refine Tr.up (N := 4) (J := fun v x => x.1 = nI v ∧ gI x.2 145 = va_up (gI h 145) j (nI f) ∧ (∀ i, gI x.2 146 i = if 4 * j ≤ i ∧ i < 4 * j + v then nI (b (4 * g + (i - 4 * j))) else gI h 146 i) ∧ Fr (fun a => a = 145 ∨ a = 146) h x.2) ?_ ?_ (p := 0) ⟨rfl, gI_sI, fun i => by rw [if_neg (by omega), gI_sI_ne (by decide)], Fr.sI (Or.inl rfl)⟩ (Nat.zero_le _) (by omega)
  · intro v x kk hv hJ hk'
    obtain ⟨x1, h1⟩ := x
    obtain ⟨e, q1, q2, F⟩ := hJ
    dsimp only at e q1 q2 F
    subst e
    dsimp only
    have L1 := F.lay L
    have e1 : (4 : Int32) * nI j + nI v = nI (4 * j + v) := by rw [show (4 : Int32) = nI 4 from rfl, pk_mul, nI_add]
    have e2 : nI (4 * g) + nI v = nI (4 * g + v) := nI_add _ _
    refine Tr.neg (nI_ge (b := 4) hv (by decide)) (Tr.ck (Lo_123 L1) (Tr.gp (Lp_123_33 L1) (Tr.gp (Lp_123_36 L1) ?_)))
    rw [e1, e2]
    refine Tr.ca (La_148 L1 (by omega)) (Tr.ca (La_146 L1 (by omega)) (Tr.nmx ?_))
    rw [nI_clamp (by omega), nI_clamp (by omega), nI_1, F.I (show ¬ (148 = 145 ∨ 148 = 146) by decide), (B v hv).1]
    refine hk' _ ⟨rfl, by rw [gI_sI_ne (by decide)]; exact q1, fun i => ?_, F.tr (Fr.sI (Or.inr rfl))⟩
    dsimp only
    rw [gI_sI]
    by_cases c : i = 4 * j + v
    · subst c
      rw [upd_eq, if_pos (by omega), Nat.add_sub_cancel_left]
    · rw [upd_ne c, q2 i]
      by_cases c2 : 4 * j ≤ i ∧ i < 4 * j + v
      · rw [if_pos c2, if_pos (by omega)]
      · rw [if_neg c2, if_neg (by omega)]
  · intro x kk hJ
    obtain ⟨x1, h1⟩ := x
    obtain ⟨e, q1, q2, F⟩ := hJ
    dsimp only at e q1 q2 F
    subst e
    dsimp only
    have L1 := F.lay L
    have g123 : gI h1 123 = gI h 123 := F.I (by decide)
    have Fw : Fr tW h h1 := F.wk (fun a x => Or.inr x)
    have new : gI h1 145 j = nI (tsk f b g).1 ∧ ∀ v, v < 4 → gI h1 146 (4 * j + v) = nI ((tsk f b g).2.getD v 0) := by
      refine ⟨by rw [q1, upd_eq]; rfl, fun v hv => ?_⟩
      rw [q2, if_pos (by omega), Nat.add_sub_cancel_left, tsk_v f b g v hv]
    have old : ∀ k, k ≠ j → gI h1 145 k = gI h 145 k ∧ ∀ v, v < 4 → gI h1 146 (4 * k + v) = gI h 146 (4 * k + v) := fun k hk => by
      refine ⟨by rw [q1, upd_ne hk], fun v hv => ?_⟩
      rw [q2, if_neg (by omega)]
    have e128 : (128 : Int32) + nI j = nI (128 + j) := nI_add _ _
    refine Tr.pos (nI_le (b := 4) (Nat.le_refl _) (by decide)) (Tr.ck (Lo_123 L1) ?_)
    rw [g123, r1, e128]
    by_cases hm : tsk f b g ∈ T
    · have hlt := ixo_lt hm
      have hgt := ixo_get hm
      rw [hj] at hlt hgt
      have hins : insA T (tsk f b g) = T := if_pos hm
      refine Tr.neg (nI_ne (b := T.length) (by omega) (by omega) (by omega)) (Tr.ret ⟨by rw [hins, hj], ⟨by rw [gI_sI, upd_eq, hins], fun k e hk => ?_⟩, Fw.tr (Fr.sI (Or.inl rfl)), fun i hi => by rw [gI_sI, upd_ne hi, g123]⟩)
      rw [hins] at hk
      rw [gI_sI_ne (by decide), gI_sI_ne (by decide)]
      by_cases c : k = j
      · subst c
        rw [hgt] at hk
        cases hk
        exact new
      · obtain ⟨o1, o2⟩ := old k c
        obtain ⟨p1, p2⟩ := r2 k e hk
        exact ⟨by rw [o1]; exact p1, fun v hv => by rw [o2 v hv]; exact p2 v hv⟩
    · have he := ixo_out hm
      rw [hj] at he
      subst he
      have hins : insA T (tsk f b g) = T ++ [tsk f b g] := if_neg hm
      refine Tr.pos rfl ?_
      rw [nI_1]
      refine Tr.ret ⟨by rw [hins, ixo_snoc hm], ⟨by rw [gI_sI, upd_eq, hins, List.length_append]; rfl, fun k e hk => ?_⟩, Fw.tr (Fr.sI (Or.inl rfl)), fun i hi => by rw [gI_sI, upd_ne hi, g123]⟩
      rw [hins] at hk
      rw [gI_sI_ne (by decide), gI_sI_ne (by decide)]
      by_cases c : k = T.length
      · subst c
        rw [List.getElem?_append_right (Nat.le_refl _), Nat.sub_self] at hk
        cases hk
        exact new
      · have hi := (List.getElem?_eq_some_iff.mp hk).1
        rw [List.length_append, List.length_singleton] at hi
        rw [List.getElem?_append_left (by omega)] at hk
        obtain ⟨o1, o2⟩ := old k c
        obtain ⟨p1, p2⟩ := r2 k e hk
        exact ⟨by rw [o1]; exact p1, fun v hv => by rw [o2 v hv]; exact p2 v hv⟩
theorem X10_no59 (L : Lay h) (R : RfT h T) (K : TB T) (hT : T.length < 64) (hf : f < 3) (hg : 4 * g + 3 < 64) (B : Bl4 h b g) (ha : alq b g = false) : Tr (loopN (fun k s => f_X10_nodeOver_59 k 123 (nI f) (nI (4 * g)) s.1 s.2) 5000 ((0 : Int32), h)) (NoQ h T f g b) := by
  have hle := ixo_le T (tsk f b g)
  refine Tr.up (N := ixo T (tsk f b g)) (J := fun i x => x = (nI i, h)) ?_ ?_ (p := 0) rfl (Nat.zero_le _) (by omega)
  · intro i x kk hi hJ hk'
    subst hJ
    dsimp only
    have hno := ixo_no hi
    have hx := List.getElem?_eq_getElem (show i < T.length by omega)
    have hd : decide (T[i]'(by omega) = tsk f b g) = false := decide_eq_false (fun z => hno (by rw [hx, z]))
    refine Tr.ck (Lo_123 L) ?_
    rw [R.1]
    refine Tr.neg (nI_ge (b := T.length) (by omega) (by omega)) (Tr.be (X10_isTest L R K (by omega) hx hf hg B) ?_)
    rw [hd]
    exact Tr.pos rfl (Tr.nmx (hk' _ (by rw [nI_1])))
  · intro x kk hJ
    subst hJ
    dsimp only
    refine Tr.ck (Lo_123 L) ?_
    rw [R.1]
    have f85 := X10_no85 L R hT hf hg B ha
    by_cases hm : tsk f b g ∈ T
    · have hlt := ixo_lt hm
      refine Tr.neg (nI_ge (b := T.length) hlt (by omega)) (Tr.be (X10_isTest L R K (by omega) (ixo_get hm) hf hg B) ?_)
      rw [decide_eq_true rfl]
      exact Tr.neg (by decide) f85
    · have he := ixo_out hm
      exact Tr.pos (by rw [he]; exact nI_le (Nat.le_refl _) (by omega)) f85
theorem X10_nodeOver (L : Lay h) (R : RfT h T) (K : TB T) (hT : T.length < 64) (hf : f < 3) (hg : 4 * g + 3 < 64) (B : Bl4 h b g) : Tr (f_X10_nodeOver 123 (nI f) (nI (4 * g)) h) (NoQ h T f g b) := by
  have hal : eqB b g 3 = alq b g := by
    have h1 : eqB b g 3 = true ↔ alq b g = true := by
      unfold eqB eqB eqB eqB alq
      simp only [Bool.and_eq_true, beq_iff_eq, decide_eq_true_eq, Bool.true_and]
      exact ⟨fun ⟨⟨x, y⟩, z⟩ => ⟨x.symm, y.symm, z.symm⟩, fun ⟨x, y, z⟩ => ⟨⟨x.symm, y.symm⟩, z.symm⟩⟩
    exact Bool.eq_iff_iff.mpr h1
  refine Tr.up (N := 4) (J := fun v x => x = (bi (eqB b g (v - 1)), nI v) ∧ 1 ≤ v) ?_ ?_ (p := 1) ⟨rfl, Nat.le_refl _⟩ (by decide) (by omega)
  · intro v x kk hv hJ hk'
    obtain ⟨hJ, h1⟩ := hJ
    subst hJ
    dsimp only
    have es : eqB b g (v + 1 - 1) = (eqB b g (v - 1) && decide (b (4 * g + v) = b (4 * g))) := by
      obtain ⟨w, rfl⟩ : ∃ w, v = w + 1 := ⟨v - 1, by omega⟩
      rfl
    have b0 := (B 0 (by decide))
    rw [Nat.add_zero] at b0
    refine Tr.neg (nI_ge (b := 4) hv (by decide)) ?_
    cases c : eqB b g (v - 1) with
    | false =>
      refine Tr.pos rfl (Tr.nmx (hk' _ ⟨?_, by omega⟩))
      rw [es, c, nI_1]; rfl
    | true =>
      have e2 : nI (4 * g) + nI v = nI (4 * g + v) := nI_add _ _
      refine Tr.neg (by decide) (Tr.ck (Lo_123 L) (Tr.gp (Lp_123_36 L) ?_))
      rw [e2]
      refine Tr.ca (La_148 L (by omega)) (Tr.gp (Lp_123_36 L) (Tr.ca (La_148 L (by omega)) ?_))
      rw [nI_clamp (by omega), nI_clamp (by omega), (B v hv).1, b0.1]
      by_cases c2 : b (4 * g + v) = b (4 * g)
      · refine Tr.pos (by rw [c2]) (Tr.nmx (hk' _ ⟨?_, by omega⟩))
        rw [es, c, decide_eq_true c2, nI_1]; rfl
      · refine Tr.neg (nI_ne (B v hv).2 b0.2 c2) (Tr.nmx (hk' _ ⟨?_, by omega⟩))
        rw [es, c, decide_eq_false c2, nI_1]; rfl
  · intro x kk hJ
    obtain ⟨hJ, _⟩ := hJ
    subst hJ
    dsimp only
    have e : eqB b g (4 - 1) = alq b g := hal
    rw [e]
    refine Tr.pos (nI_le (b := 4) (Nat.le_refl _) (by decide)) ?_
    cases c : alq b g with
    | false => exact Tr.pos rfl (X10_no59 L R K hT hf hg B c)
    | true =>
      have b0 := (B 0 (by decide)).1
      rw [Nat.add_zero] at b0
      refine Tr.neg (by decide) (Tr.ck (Lo_123 L) (Tr.gp (Lp_123_36 L) (Tr.ca (La_148 L (by omega)) ?_)))
      rw [nI_clamp (by omega), b0]
      have hts : tst f b T g = T := if_pos c
      refine Tr.ret ⟨?_, by rw [hts]; exact R, Fr.rf, fun _ _ => rfl⟩
      rw [hts]
      unfold nid
      rw [if_pos c]
end REF

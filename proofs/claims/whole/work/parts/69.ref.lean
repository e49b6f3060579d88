/-! THE REFERENCE: operators, and what a row does -/
section REF
variable {h : Hp} {G : St}
/-- the operator of sign 50 + o on the sets at base b (b + 64, b + 128 above): where each packet goes; far is touched only -/
noncomputable def opR (g : Nat) (f : Nat → Int64) (b : Nat) : Nat → Int64 :=
  if g = 50 then fun p => f (b + p) ||| f (b + 64 + p)
  else if g = 51 then fun p => seqI (f (b + p)) (fun q => f (b + 64 + q))
  else if g = 52 then starI (fun q => f (b + q))
  else if g = 53 then fun p => if f (b + p) = 0 then ob p else 0
  else fun p => if f (b + p) = 0 then f (b + 128 + p) else f (b + 64 + p)
def oWr : Nat → Prop := fun a => a = 140 ∨ a = 141
theorem X10_ops60 (L : Lay h) {g b : Nat} (hg : 50 ≤ g ∧ g ≤ 54) (hb : b + 64 * (if g = 54 then 3 else if g < 52 then 2 else 1) ≤ 4096) : Tr (loopN (fun k s => f_X10_operates_60 k 123 (nI g) (nI b) (nI (b + 64)) (nI (b + 128)) s.1 s.2) 5000 ((0 : Int32), h)) (fun _ h1 => (∀ j, j < b → gL h1 139 j = gL h 139 j) ∧ (∀ p, p < 64 → gL h1 139 (b + p) = opR g (gL h 139) b p) ∧ Fr (fun a => 139 ≤ a ∧ a ≤ 141) h h1) := by
  have hb0 : b + 64 ≤ 4096 := by
    by_cases c : g = 54
    · rw [if_pos c] at hb; omega
    · rw [if_neg c] at hb
      by_cases c2 : g < 52
      · rw [if_pos c2] at hb; omega
      · rw [if_neg c2] at hb; omega
  refine Tr.up (N := 64) (J := fun k y => y.1 = nI k ∧ (∀ p, p < k → gL y.2 141 p = opR g (gL h 139) b p) ∧ Fr oWr h y.2) ?_ ?_ (p := 0) ⟨rfl, fun p hp => absurd hp (Nat.not_lt_zero _), Fr.rf⟩ (Nat.zero_le _) (by omega)
  · intro p y kk hp hJ hk'
    obtain ⟨y1, h1⟩ := y
    obtain ⟨e, B, F⟩ := hJ
    dsimp only at e B F
    subst e
    dsimp only
    have L1 := F.lay L
    have e139 : gL h1 139 = gL h 139 := F.L (show ¬ oWr 139 from fun z => by unfold oWr at z; omega)
    have fin : ∀ h2 v, Fr (fun a => a = 140) h1 h2 → v = opR g (gL h 139) b p → Tr (kk (nI (p + 1), sL h2 141 p v)) (fun _ h1 => (∀ j, j < b → gL h1 139 j = gL h 139 j) ∧ (∀ p, p < 64 → gL h1 139 (b + p) = opR g (gL h 139) b p) ∧ Fr (fun a => 139 ≤ a ∧ a ≤ 141) h h1) := by
      intro h2 v F2 ev
      subst ev
      refine hk' _ ⟨rfl, fun q hq => ?_, (F.tr (F2.wk (fun a x => Or.inl x))).tr (Fr.sL (Or.inr rfl))⟩
      dsimp only
      rw [gL_sL, F2.L (show ¬ (141 = 140) by decide)]
      by_cases c : q = p
      · subst c; rw [upd_eq]
      · rw [upd_ne c]; exact B q (by omega)
    have ea : nI b + nI p = nI (b + p) := nI_add _ _
    have eb : nI (b + 64) + nI p = nI (b + 64 + p) := nI_add _ _
    have ec : nI (b + 128) + nI p = nI (b + 128 + p) := nI_add _ _
    refine Tr.neg (nI_ge (b := 64) hp (by decide)) (Tr.ck (Lo_123 L1) (Tr.gp (Lp_123_27 L1) ?_))
    rcases (by omega : g = 50 ∨ g = 51 ∨ g = 52 ∨ g = 53 ∨ g = 54) with rfl | rfl | rfl | rfl | rfl
    · simp at hb
      refine Tr.pos rfl (Tr.gp (Lp_123_24 L1) ?_)
      rw [ea, eb]
      refine Tr.ca (La_139 L1 (by omega)) (Tr.gp (Lp_123_24 L1) (Tr.ca (La_139 L1 (by omega)) (Tr.ca (La_141 L1 hp) (Tr.nmx ?_))))
      rw [nI_1, nI_clamp (by omega), nI_clamp (by omega), nI_clamp (by omega), e139]
      exact fin h1 _ Fr.rf rfl
    · simp at hb
      refine Tr.neg (by decide) (Tr.pos rfl (Tr.gp (Lp_123_24 L1) ?_))
      rw [ea]
      refine Tr.ca (La_139 L1 (by omega)) (Tr.be (X10_turned L1 (b := b + 64) (by omega) _) (Tr.ca (La_141 L1 hp) (Tr.nmx ?_)))
      rw [nI_1, nI_clamp (by omega), nI_clamp (by omega), e139]
      exact fin h1 _ Fr.rf rfl
    · refine Tr.neg (by decide) (Tr.neg (by decide) (Tr.pos rfl (Tr.bd (X10_reached L1 hp hb0) (fun r h2 q => ?_))))
      obtain ⟨q1, q2, q3⟩ := q
      rw [e139] at q1
      subst q1
      refine Tr.ca (La_141 (q3.lay L1) hp) (Tr.nmx ?_)
      rw [nI_1, nI_clamp (by omega)]
      exact fin h2 _ q3 rfl
    · refine Tr.neg (by decide) (Tr.neg (by decide) (Tr.neg (by decide) (Tr.pos rfl (Tr.gp (Lp_123_24 L1) ?_))))
      rw [ea]
      refine Tr.ca (La_139 L1 (by omega)) ?_
      rw [nI_clamp (by omega), e139]
      have eo : opR 53 (gL h 139) b p = if gL h 139 (b + p) = 0 then ob p else 0 := rfl
      by_cases c : gL h 139 (b + p) = 0
      · refine Tr.pos ((lg_cmp_eq _ _).mpr c) (Tr.ca (La_141 L1 hp) (Tr.nmx ?_))
        rw [nI_1, nI_clamp (by omega)]
        exact fin h1 _ Fr.rf (by rw [eo, if_pos c]; rfl)
      · refine Tr.neg (fun z => c ((lg_cmp_eq _ _).mp z)) (Tr.ca (La_141 L1 hp) (Tr.nmx ?_))
        rw [nI_1, nI_clamp (by omega)]
        exact fin h1 _ Fr.rf (by rw [eo, if_neg c])
    · simp at hb
      refine Tr.neg (by decide) (Tr.neg (by decide) (Tr.neg (by decide) (Tr.neg (by decide) (Tr.gp (Lp_123_24 L1) ?_))))
      rw [ea]
      refine Tr.ca (La_139 L1 (by omega)) ?_
      rw [nI_clamp (by omega), e139]
      have eo : opR 54 (gL h 139) b p = if gL h 139 (b + p) = 0 then gL h 139 (b + 128 + p) else gL h 139 (b + 64 + p) := rfl
      by_cases c : gL h 139 (b + p) = 0
      · refine Tr.pos ((lg_cmp_eq _ _).mpr c) (Tr.gp (Lp_123_24 L1) ?_)
        rw [ec]
        refine Tr.ca (La_139 L1 (by omega)) (Tr.ca (La_141 L1 hp) (Tr.nmx ?_))
        rw [nI_1, nI_clamp (by omega), nI_clamp (by omega)]
        exact fin h1 _ Fr.rf (by rw [eo, if_pos c, e139])
      · refine Tr.neg (fun z => c ((lg_cmp_eq _ _).mp z)) (Tr.gp (Lp_123_24 L1) ?_)
        rw [eb]
        refine Tr.ca (La_139 L1 (by omega)) (Tr.ca (La_141 L1 hp) (Tr.nmx ?_))
        rw [nI_1, nI_clamp (by omega), nI_clamp (by omega)]
        exact fin h1 _ Fr.rf (by rw [eo, if_neg c, e139])
  · intro y kk hJ
    obtain ⟨y1, h1⟩ := y
    obtain ⟨e, B, F⟩ := hJ
    dsimp only at e B F
    subst e
    dsimp only
    have L1 := F.lay L
    refine Tr.pos (nI_le (b := 64) (Nat.le_refl _) (by decide)) ?_
    have e139 : gL h1 139 = gL h 139 := F.L (show ¬ oWr 139 from fun z => by unfold oWr at z; omega)
    have F1 : Fr (fun a => 139 ≤ a ∧ a ≤ 141) h h1 := F.wk (fun a x => by unfold oWr at x; omega)
    refine Tr.up (N := 64) (J := fun k y => y.1 = nI k ∧ (∀ j, j < b → gL y.2 139 j = gL h 139 j) ∧ (∀ p, p < k → gL y.2 139 (b + p) = opR g (gL h 139) b p) ∧ Fr (fun a => a = 139) h1 y.2) ?_ ?_ (p := 0) ⟨rfl, fun j _ => by rw [e139], fun p hp => absurd hp (Nat.not_lt_zero _), Fr.rf⟩ (Nat.zero_le _) (by omega)
    · intro p y kk hp hJ hk'
      obtain ⟨y1, h2⟩ := y
      obtain ⟨e, J1, J2, F2⟩ := hJ
      dsimp only at e J1 J2 F2
      subst e
      dsimp only
      have L2 := F2.lay L1
      have ea : nI b + nI p = nI (b + p) := nI_add _ _
      refine Tr.neg (nI_ge (b := 64) hp (by decide)) (Tr.ck (Lo_123 L2) (Tr.gp (Lp_123_24 L2) (Tr.gp (Lp_123_27 L2) (Tr.ca (La_141 L2 hp) ?_))))
      rw [ea]
      refine Tr.ca (La_139 L2 (by omega)) (Tr.nmx ?_)
      rw [nI_1, nI_clamp (by omega), nI_clamp (by omega), F2.L (show ¬ (141 = 139) by decide), B p hp]
      refine hk' _ ⟨rfl, fun j hj => ?_, fun q hq => ?_, F2.tr (Fr.sL rfl)⟩
      · dsimp only; rw [gL_sL, upd_ne (by omega)]; exact J1 j hj
      · dsimp only
        rw [gL_sL]
        by_cases c : q = p
        · subst c; rw [upd_eq]
        · rw [upd_ne (by omega)]; exact J2 q (by omega)
    · intro y kk hJ
      obtain ⟨y1, h2⟩ := y
      obtain ⟨e, J1, J2, F2⟩ := hJ
      dsimp only at e J1 J2 F2
      subst e
      exact Tr.pos (nI_le (b := 64) (Nat.le_refl _) (by decide)) (Tr.ret ⟨J1, J2, F1.tr (F2.wk (fun a x => by omega))⟩)
end REF

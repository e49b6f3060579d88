/-! THE REFERENCE: drawing alone -/
section REF
variable {h : Hp} {G : St}
theorem X10_clears (M : MI h G) : Tr (f_X10_clears 123 h) (fun _ h1 => RfL h1 [] ∧ RfT h1 [] ∧ (∀ i, i < 192 → gI h1 147 i = 0) ∧ MI h1 G ∧ Fr mA h h1) := by
  refine Tr.ck (Lo_123 M.1) ?_
  have Fz : DFr h (sI (sI h 123 31 0) 123 34 0) := ⟨(Fr.sI (Or.inl rfl)).tr (Fr.sI (Or.inl rfl)), fun i x y => by rw [gI_sI, upd_ne y, gI_sI, upd_ne x]⟩
  have z31 : gI (sI (sI h 123 31 0) 123 34 0) 123 31 = nI 0 := by rw [gI_sI, upd_ne (by decide), gI_sI, upd_eq]; rfl
  have z34 : gI (sI (sI h 123 31 0) 123 34 0) 123 34 = nI 0 := by rw [gI_sI, upd_eq]; rfl
  generalize sI (sI h 123 31 0) 123 34 0 = h0 at Fz z31 z34 ⊢
  have M0 := Fz.mi M
  refine Tr.up (N := 192) (J := fun k x => x.1 = nI k ∧ (∀ i, i < k → gI x.2 147 i = 0) ∧ Fr (fun a => a = 147) h0 x.2) ?_ ?_ (p := 0) ⟨rfl, fun i hi => absurd hi (Nat.not_lt_zero _), Fr.rf⟩ (Nat.zero_le _) (by omega)
  · intro k x kk hk hJ hk'
    obtain ⟨x1, h1⟩ := x
    obtain ⟨e, Z, F⟩ := hJ
    dsimp only at e Z F
    subst e
    dsimp only
    have L1 := F.lay M0.1
    refine Tr.neg (nI_ge (b := 192) hk (by decide)) (Tr.ck (Lo_123 L1) (Tr.gp (Lp_123_35 L1) (Tr.ca (La_147 L1 hk) (Tr.nmx (hk' _ ⟨nI_1 k, fun i hi => ?_, F.tr (Fr.sI rfl)⟩)))))
    dsimp only
    rw [gI_sI, nI_clamp (by omega)]
    by_cases c : i = k
    · subst c; rw [upd_eq]
    · rw [upd_ne c]; exact Z i (by omega)
  · intro x kk hJ
    obtain ⟨x1, h1⟩ := x
    obtain ⟨e, Z, F⟩ := hJ
    dsimp only at e Z F
    subst e
    dsimp only
    have e123 : gI h1 123 = gI h0 123 := F.I (by decide)
    have FD : DFr h0 h1 := ⟨F.wk (fun a x => Or.inr (by omega)), fun i _ _ => by rw [e123]⟩
    exact Tr.pos (nI_le (b := 192) (Nat.le_refl _) (by decide)) (Tr.ret ⟨⟨by rw [e123]; exact z31, fun i x hx => by cases hx⟩, ⟨by rw [e123]; exact z34, fun k e hk => by cases hk⟩, Z, FD.mi M0, Fz.mA.tr FD.mA⟩)
theorem X10_drawsAlone (M : MI h G) {s : Nat} (hs : s < 4) : Tr (f_X10_drawsAlone 123 (nI s) h) (fun r h1 => r = nI (dRt 128 (evI (G.2.2.1 s)) [] []) ∧ RfL h1 (dL (evI (G.2.2.1 s)) []) ∧ RfT h1 (dT0 128 (evI (G.2.2.1 s)) [] []) ∧ TB (dT0 128 (evI (G.2.2.1 s)) [] []) ∧ MI h1 G ∧ Fr mA h h1) := by
  refine Tr.ck (Lo_123 M.1) (Tr.bd (X10_clears M) (fun _ h1 q => ?_))
  obtain ⟨A, B, _, M1, F1⟩ := q
  refine Tr.ck (Lo_123 M1.1) (Tr.bd (X10_draws M1 hs A B (fun k e hk => by cases hk) (by simp) (by simp)) (fun r h2 q => Tr.ret ?_))
  obtain ⟨q1, q2, q3, q4, _, q6, q7⟩ := q
  exact ⟨q1, q2, q3, q4, q6, F1.tr q7⟩
theorem X10_leavesOf (M : MI h G) {s : Nat} (hs : s < 4) : Tr (f_X10_leavesOf 123 (nI s) h) (RQ h G (nI (cO (evI (G.2.2.1 s))))) := by
  refine Tr.ck (Lo_123 M.1) (Tr.bd (X10_drawsAlone M hs) (fun r h1 q => ?_))
  obtain ⟨q1, q2, q3, q4, q6, q7⟩ := q
  exact Tr.ck (Lo_123 q6.1) (Tr.ret ⟨q2.1, q6, q7⟩)
theorem X10_leaves (M : MI h G) (x : Int32) : Tr (f_X10_leaves 123 x h) (MP h (aLeaves G x)) := by
  unfold aLeaves oneQ
  refine X10_os x (fun e => ?_) (fun s hs e e2 => ?_)
  · rw [e]; exact X10_fl M (by decide) (by decide)
  · rw [e2, e]
    exact Tr.ck (Lo_123 M.1) (Tr.bd (X10_leavesOf M hs) (fun r h1 q => Tr.ret q))
end REF

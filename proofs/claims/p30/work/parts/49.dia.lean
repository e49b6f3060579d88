section X0
variable {h : Hp} {s : Nat}
theorem dL_len (R : Nat → Int64) : (dL R []).length ≤ 64 := by have := lvs_len (acts R) [] 64; simpa [dL] using this
theorem dB3_lt (R : Nat → Int64) {p : Nat} (hp : p < 64) : dB3 R [] p < (dL R []).length := ixo_lt (lvs_mem (acts R) [] hp)
/-- the diagram of a relation, from scratch: its leaves, its tests, its root, with the class's ids -/
noncomputable def cO (R : Nat → Int64) : Nat := (dL R []).length
noncomputable def cT (R : Nat → Int64) : List TE := dT0 (cO R) R [] []
noncomputable def cR (R : Nat → Int64) : Nat := dRt (cO R) R [] []
def DgOK (h : Hp) (s : Nat) (D : List (Int64 × Int64)) (T : List TE) (r : Nat) : Prop := DgL h s D ∧ DgT h s D.length T ∧ TOK D.length T ∧ gI h (46 + 22 * s) 7 = nI r ∧ r < D.length + T.length ∧ D.length ≤ 64 ∧ T.length ≤ 21
theorem X0_build (L : Lay h) (hs : s < 4) : Tr (f_X0_build (46 + 22 * s) (44 + 22 * s) h) (fun _ h1 => DgOK h1 s (dL (gL h (45 + 22 * s)) []) (cT (gL h (45 + 22 * s))) (cR (gL h (45 + 22 * s))) ∧ Fr (qD s) h h1) := by
  refine Tr.ck (Lso_46 L hs) ?_
  generalize hR : gL h (45 + 22 * s) = R
  refine Tr.up (N := 64) (J := fun p x => x.1 = nI p ∧ DgL x.2 s (lvs (acts R) [] p) ∧ Fr (qD s) h x.2 ∧ ∀ j, j < p → gI x.2 (52 + 22 * s) j = nI (dB3 R [] j)) ?_ ?_ (p := 0) ⟨rfl, ⟨?_, fun i x hx => (by cases hx), fun i hi => absurd hi (Nat.not_lt_zero _)⟩, Fr.sI ⟨by omega, by omega⟩, fun j hj => absurd hj (Nat.not_lt_zero _)⟩ (Nat.zero_le _) (by omega)
  · intro p x kc hp hJ hk'
    obtain ⟨x1, h1⟩ := x
    obtain ⟨e, G, F, B⟩ := hJ
    dsimp only at e G F B
    subst e
    dsimp only
    have L1 := F.lay L
    have hl := lvs_len (acts R) [] p
    rw [List.length_nil] at hl
    refine Tr.neg (nI_ge (b := 64) hp (by decide)) (Tr.ck (Lso_46 L1 hs) (Tr.gp (Lsp_46_8 L1 hs) (Tr.ck (Lso_44 L1 hs) (Tr.be (X6_imageOf L1 hs hp) (Tr.ck (Lso_46 L1 hs) ?_)))))
    rw [F.L (show ¬ qD s (45 + 22 * s) from fun z => by unfold qD at z; omega), hR]
    refine Tr.bd (X0_leafFor L1 hs G hp (by omega)) (fun r h2 q => ?_)
    obtain ⟨rfl, G2, F2, g52⟩ := q
    have L2 := F2.lay L1
    have eid : ixo (insA (lvs (acts R) [] p) (actL p (R p), actH p (R p))) (actL p (R p), actH p (R p)) = dB3 R [] p := (lvs_ix (acts R) [] (show p < p + 1 by omega) (show p + 1 ≤ 64 by omega)).symm
    rw [eid]
    refine Tr.ca (Lsa_52 L2 hs hp) (Tr.nmx (hk' _ ⟨nI_1 p, ?_, ?_, fun j hj => ?_⟩))
    · dsimp only
      rw [sI_w]
      refine ⟨?_, G2.2.1, fun i hi => ?_⟩
      · rw [gI_wI_ne (by omega)]; exact G2.1
      · rw [gI_wI_ne (by omega)]; exact G2.2.2 i hi
    · exact (F.tr F2).tr (Fr.sI ⟨by omega, by omega⟩)
    · dsimp only
      rw [gI_sI, nI_clamp (by omega)]
      by_cases e : j = p
      · subst e; rw [upd_eq]
      · rw [upd_ne e, g52]; exact B j (by omega)
  · intro x kc hJ
    obtain ⟨x1, h1⟩ := x
    obtain ⟨e, G, F, B⟩ := hJ
    dsimp only at e G F B
    subst e
    dsimp only
    have L1 := F.lay L
    have hlen := dL_len R
    have ho : (dL R []).length = cO R := rfl
    have hG : DgL h1 s (dL R []) := G
    refine Tr.pos (nI_le (b := 64) (Nat.le_refl _) (by decide)) (Tr.ck (Lso_46 L1 hs) ?_)
    rw [hG.1]
    have L2 : Lay (sI h1 (46 + 22 * s) 6 (nI (dL R []).length)) := L1
    have G2 : DgL (sI h1 (46 + 22 * s) 6 (nI (dL R []).length)) s (dL R []) := by
      rw [sI_w]
      refine ⟨?_, hG.2.1, fun i hi => ?_⟩
      · rw [gI_wI, upd_ne (by decide)]; exact hG.1
      · rw [gI_wI_ne (by omega)]; exact hG.2.2 i hi
    have T2 : DgT (sI h1 (46 + 22 * s) 6 (nI (dL R []).length)) s (cO R) [] := ⟨by rw [gI_sI, upd_eq, List.length_nil, Nat.add_zero]; rfl, fun k e hk => by cases hk⟩
    refine Tr.unr (n := 4999) ?_
    refine Tr.neg (show ¬ (2 : Int32) < 0 by decide) ?_
    refine X0_bld55 L2 hs G2 ho T2 (fun k e hk => by cases hk) (f := 2) (n := 16) (b := dB3 R []) (by decide) (by decide) (by simp; omega) (fun j hj => ⟨by rw [gI_sI_ne (by omega)]; exact B j (by omega), by have := dB3_lt R (p := j) (by omega); rw [ho] at this; simpa using this⟩) (fun h3 G3 T3 ok3 F3 B3 => ?_)
    refine Tr.unr (n := 4998) ?_
    refine Tr.neg (show ¬ (nI 2 - 1 : Int32) < 0 by decide) ?_
    have l2 := tss_len 2 (dB3 R []) [] 16
    rw [List.length_nil] at l2
    have e1 : nI 2 - 1 = nI 1 := by decide
    dsimp only
    rw [e1]
    refine X0_bld55 (F3.lay L2) hs G3 ho T3 ok3 (f := 1) (n := 4) (b := dB2 (cO R) R [] []) (by decide) (by decide) (by omega) (fun j hj => B3 j (by omega)) (fun h4 G4 T4 ok4 F4 B4 => ?_)
    refine Tr.unr (n := 4997) ?_
    refine Tr.neg (show ¬ (nI 1 - 1 : Int32) < 0 by decide) ?_
    have l1 := tss_len 1 (dB2 (cO R) R [] []) (dT2 R [] []) 4
    have l2' : (dT2 R [] []).length ≤ 0 + 16 := l2
    have e0 : nI 1 - 1 = nI 0 := by decide
    dsimp only
    rw [e0]
    refine X0_bld55 (F4.lay (F3.lay L2)) hs G4 ho T4 ok4 (f := 0) (n := 1) (b := dB1 (cO R) R [] []) (by decide) (by decide) (by show _ + (tss 1 (dB2 (cO R) R [] []) (dT2 R [] []) 4).length + 1 ≤ 85; omega) (fun j hj => B4 j (by omega)) (fun h5 G5 T5 ok5 F5 B5 => ?_)
    refine Tr.unr (n := 4996) ?_
    refine Tr.pos (show (nI 0 - 1 : Int32) < 0 by decide) ?_
    have L5 := F5.lay (F4.lay (F3.lay L2))
    refine Tr.ck (Lso_46 L5 hs) (Tr.gp (Lsp_46_8 L5 hs) (Tr.ca (Lsa_52 (j := 0) L5 hs (by decide)) (Tr.ret ?_)))
    have h0 := B5 0 (by decide)
    have l0 := tss_len 0 (dB1 (cO R) R [] []) (dT1 (cO R) R [] []) 1
    have l1' : (dT1 (cO R) R [] []).length ≤ (dT2 R [] []).length + 4 := l1
    have hc0 : (0 : Int32).toNatClampNeg = 0 := rfl
    refine ⟨⟨?_, ?_, ok5, ?_, h0.2, hlen, by show (tss 0 (dB1 (cO R) R [] []) (dT1 (cO R) R [] []) 1).length ≤ 21; omega⟩, ?_⟩
    · rw [sI_w]
      refine ⟨?_, G5.2.1, fun i hi => ?_⟩
      · rw [gI_wI, upd_ne (by decide)]; exact G5.1
      · rw [gI_wI_ne (by omega)]; exact G5.2.2 i hi
    · rw [sI_w]
      unfold DgT
      rw [gI_wI, upd_ne (by decide), gI_wI_ne (by omega), gI_wI_ne (by omega), gI_wI_ne (by omega)]
      exact T5
    · rw [gI_sI, upd_eq, hc0]; exact h0.1
    · exact ((((F.tr (Fr.sI ⟨by omega, by omega⟩)).tr F3).tr F4).tr F5).tr (Fr.sI ⟨by omega, by omega⟩)
  · dsimp only; rw [gI_sI, upd_eq]; rfl
end X0

/-! THE REFERENCE: drawing a slot -/
/-- the nodes of a drawing -/
noncomputable def dIds (o : Nat) (R : Nat → Int64) (D : List (Int64 × Int64)) (T : List TE) : List Nat := (((List.range 64).map (dB3 R D) ++ (List.range 16).map (dB2 o R D T)) ++ (List.range 4).map (dB1 o R D T)) ++ (List.range 1).map (fun k => nid o 0 (dB1 o R D T) (dT0 o R D T) k)
section REF
variable {h : Hp} {G : St}
theorem X10_draws (M : MI h G) {s : Nat} (hs : s < 4) {D : List (Int64 × Int64)} {T : List TE} (A : RfL h D) (B : RfT h T) (K : TB T) (hD : D.length ≤ 64) (hT : T.length ≤ 40) {m : Int32} : Tr (f_X10_draws 123 (nI s) m h) (fun r h1 => r = nI (dRt 128 (evI (G.2.2.1 s)) D T) ∧ RfL h1 (dL (evI (G.2.2.1 s)) D) ∧ RfT h1 (dT0 128 (evI (G.2.2.1 s)) D T) ∧ TB (dT0 128 (evI (G.2.2.1 s)) D T) ∧ UsR (gI h 147) (gI h1 147) m (dIds 128 (evI (G.2.2.1 s)) D T) ∧ MI h1 G ∧ Fr mA h h1) := by
  refine Tr.ck (Lo_123 M.1) (Tr.bd (X10_evaluates M hs) (fun _ h2 q => ?_))
  obtain ⟨E, hR⟩ := q
  have M2 := E.mi M
  have L2 := M2.1
  have e147 : gI h2 147 = gI h 147 := E.1.I (fun z => by unfold eW at z; omega)
  have A2 : RfL h2 D := by
    refine ⟨by rw [E.2 31 (by decide)]; exact A.1, fun i x hx => ?_⟩
    rw [E.1.L (fun z => by unfold eW at z; omega), E.1.L (fun z => by unfold eW at z; omega)]
    exact A.2 i x hx
  have B2 : RfT h2 T := by
    refine ⟨by rw [E.2 34 (by decide)]; exact B.1, fun k e hk => ?_⟩
    rw [E.1.I (fun z => by unfold eW at z; omega), E.1.I (fun z => by unfold eW at z; omega)]
    exact B.2 k e hk
  rw [← e147]
  generalize evI (G.2.2.1 s) = R at hR ⊢
  have hl3 : (dL R D).length ≤ 128 := by
    have := lvs_len (acts R) D 64
    show (lvs (acts R) D 64).length ≤ 128
    omega
  have hb3 : ∀ j, j < 64 → dB3 R D j < 128 := fun j hj => by
    have : dB3 R D j < (dL R D).length := ixo_lt (lvs_mem (acts R) D hj)
    omega
  refine X10_dr7 L2 hR A2 hD (fun h3 A3 B3 U3 F3 c34 c145 c146 => ?_)
  have L3 := F3.1.lay L2
  have T3 : RfT h3 T := ⟨by rw [c34]; exact B2.1, fun k e hk => by rw [c145, c146]; exact B2.2 k e hk⟩
  have t2 : (dT2 R D T).length ≤ T.length + 16 := tss_len _ _ _ 16
  have t1 : (dT1 128 R D T).length ≤ (dT2 R D T).length + 4 := tss_len _ _ _ 4
  refine Tr.unr (Tr.neg (show ¬ (2 : Int32) < 0 by decide) (Tr.nm (fun v ev => ?_)))
  have ev : v = nI 16 := ev.trans (show (64 : Int32) / (4 : Int32) = nI 16 by decide)
  subst ev
  refine X10_dr63 (f := 2) (n := 16) (b := dB3 R D) L3 T3 K (by decide) (by decide) (by omega) (fun j hj => ⟨B3 j (by omega), by have := hb3 j (by omega); omega⟩) U3 (fun h4 R4 K4 F4 B4 U4 d31 d143 d144 => ?_)
  have L4 := F4.1.lay L3
  refine Tr.unr (Tr.neg (show ¬ (nI 2 + (-1) : Int32) < 0 by decide) (Tr.nm (fun v ev => ?_)))
  have ev : v = nI 4 := ev.trans (show nI 16 / (4 : Int32) = nI 4 by decide)
  subst ev
  refine X10_dr63 (f := 1) (n := 4) (b := dB2 128 R D T) (T := dT2 R D T) L4 R4 K4 (by decide) (by decide) (by omega) (fun j hj => B4 j (by omega)) U4 (fun h5 R5 K5 F5 B5 U5 e31 e143 e144 => ?_)
  have L5 := F5.1.lay L4
  refine Tr.unr (Tr.neg (show ¬ (nI 1 + (-1) : Int32) < 0 by decide) (Tr.nm (fun v ev => ?_)))
  have ev : v = nI 1 := ev.trans (show nI 4 / (4 : Int32) = nI 1 by decide)
  subst ev
  refine X10_dr63 (f := 0) (n := 1) (b := dB1 128 R D T) (T := dT1 128 R D T) L5 R5 K5 (by decide) (by decide) (by omega) (fun j hj => B5 j (by omega)) U5 (fun h6 R6 K6 F6 B6 U6 f31 f143 f144 => ?_)
  have L6 := F6.1.lay L5
  have FF := ((F3.tr F4).tr F5).tr F6
  refine Tr.unr (Tr.pos (show (nI 0 + (-1) : Int32) < 0 by decide) (Tr.ck (Lo_123 L6) (Tr.gp (Lp_123_36 L6) (Tr.ca (La_148 (j := 0) L6 (by decide)) (Tr.ret ⟨(B6 0 (by decide)).1, ⟨?_, fun i x hx => ?_⟩, R6, K6, U6, FF.mi M2, E.mA.tr FF.mA⟩)))))
  · rw [f31, e31, d31]; exact A3.1
  · rw [f143, e143, d143, f144, e144, d144]; exact A3.2 i x hx
end REF

/-! THE CLASS'S SHARED NODES -/
section OWN2
variable {R S : Nat → Int64}
theorem HF_own {i : Nat} (h : i < cO R + (cT R).length) : HF (cO R) (cT R) 3 i := by
  obtain ⟨F, z⟩ := LY_cov h
  have := (z.is (Nat.le_refl _) [] []).1
  rw [List.append_nil] at this
  exact this
theorem ND_own (R : Nat → Int64) : ND (dL R []) := ND.lvs (L := []) (fun i j x h => by cases h) (acts R) 64
theorem GT_own (R : Nat → Int64) : GTT (dL R []).length (cO R) (cT R) := GTT.d0 (o := cO R) (R := R) (L := []) (T := []) (Nat.le_refl _) ⟨fun i j x h => (by cases h), fun k e h => (by cases h), fun k e h => (by cases h)⟩
/-- j there stands for what i stands for here -/
def twin (R S : Nat → Int64) (i j : Nat) : Prop := j < cO S + (cT S).length ∧ ∀ x, x < 64 → sm (cO S) (dL S []) (cT S) x 3 j = sm (cO R) (dL R []) (cT R) x 3 i
theorem twin_uni {i j k : Nat} (h1 : twin R S i j) (h2 : twin R S i k) : j = k :=
  can (ND_own S) (GT_own S) (Nat.le_refl 3) (HF_own h1.1) (HF_own h2.1) (fun h => h) (fun h => h) (fun x hx => by rw [h1.2 x hx, h2.2 x hx])
noncomputable def hasTw (R S : Nat → Int64) (i : Nat) : Bool := @decide (∃ j, twin R S i j) (Classical.propDecidable _)
theorem hasTw_iff {i : Nat} : hasTw R S i = true ↔ ∃ j, twin R S i j := @decide_eq_true_iff _ (Classical.propDecidable _)
noncomputable def shN (R S : Nat → Int64) : Nat := fb_ct (hasTw R S) (cO R + (cT R).length)
noncomputable def aShared (G : St) (x y : Int32) : Int32 × St := twoQ G x y (-2) (fun l m => nI (shN (evI l) (evI m)))
theorem twin_lf {i j : Nat} (hi : i < cO R) : twin R S i j ↔ j < cO S ∧ (dL S []).getD j (0, 0) = (dL R []).getD i (0, 0) := by
  constructor
  · intro h
    rcases crs (ND_own R) (GT_own R) (ND_own S) (GT_own S) (Nat.le_refl 3) (HF_own (R := R) (i := i) (by omega)) (HF_own h.1) (fun x hx => (h.2 x hx).symm) with z | z
    · have e := h.2 0 (by decide)
      rw [sm_lf z.2, sm_lf hi] at e
      exact ⟨z.2, e⟩
    · exact absurd hi z.1
  · rintro ⟨h1, h2⟩
    exact ⟨by omega, fun x _ => by rw [sm_lf h1, sm_lf hi]; exact h2⟩
theorem chl_lt {k v : Nat} (hk : k < (cT R).length) (hv : v < 4) : chl (cT R) k v < cO R + k := (TOK_c R k _ (gD_get (cT R) (0, []) hk)).2.2 v hv
theorem sm_test {k x : Nat} (hk : k < (cT R).length) : sm (cO R) (dL R []) (cT R) x 3 (cO R + k) = sm (cO R) (dL R []) (cT R) x 3 (chl (cT R) k (vlN x ((cT R).getD k (0, [])).1)) := by
  have e : cO R + k - cO R = k := by omega
  obtain ⟨m, em, _, _, _, hc⟩ := (HF_own (R := R) (i := cO R + k) (by omega)).c1 (by omega)
  rw [e] at hc
  have em : m = 2 := by omega
  rw [em] at hc
  rw [sm_ts (by omega), e, sm_s (hc _ (vlN_lt _ _))]
theorem twin_ts {k j : Nat} (hk : k < (cT R).length) : twin R S (cO R + k) j ↔ ∃ m, j = cO S + m ∧ m < (cT S).length ∧ ((cT S).getD m (0, [])).1 = ((cT R).getD k (0, [])).1 ∧ ∀ v, v < 4 → twin R S (chl (cT R) k v) (chl (cT S) m v) := by
  have e : cO R + k - cO R = k := by omega
  constructor
  · intro h
    rcases crs (ND_own R) (GT_own R) (ND_own S) (GT_own S) (Nat.le_refl 3) (HF_own (R := R) (i := cO R + k) (by omega)) (HF_own h.1) (fun x hx => (h.2 x hx).symm) with z | ⟨z1, z2, z3, z4, z5, z6⟩
    · exact absurd z.1 (by omega)
    · rw [e] at z5 z6
      refine ⟨j - cO S, by omega, z4, z5.symm, fun v hv => ⟨?_, fun x hx => (z6 v hv x hx).symm⟩⟩
      have := chl_lt z4 hv
      omega
  · rintro ⟨m, rfl, hm, hf, ht⟩
    refine ⟨by omega, fun x hx => ?_⟩
    rw [sm_test hm, sm_test hk, hf]
    exact (ht _ (vlN_lt _ _)).2 x hx
/-- what the class keeps of a node -/
def TWV (R S : Nat → Int64) (i : Nat) (r : Int32) : Prop := (∃ j, twin R S i j ∧ r = nI j) ∨ ((¬ ∃ j, twin R S i j) ∧ r = -1)
theorem TWV.iff {i : Nat} {r : Int32} (h : TWV R S i r) {j : Nat} (hj : j < 2 ^ 31) (hb : cO S + (cT S).length < 2 ^ 31) : nI j = r ↔ twin R S i j := by
  rcases h with ⟨k, h1, rfl⟩ | ⟨h1, rfl⟩
  · have := h1.1
    rw [nI_eq hj (by omega)]
    exact ⟨fun e => by rw [e]; exact h1, fun h2 => twin_uni h2 h1⟩
  · exact ⟨fun e => absurd e (no_m1 hj), fun h2 => absurd ⟨j, h2⟩ h1⟩
end OWN2
section X0
variable {h : Hp} {s t o : Nat} {T : List TE}
theorem X0_testWith2 (L : Lay h) (hs : s < 4) (ho1 : gI h (46 + 22 * s) 5 = nI o) (GT : DgT h s o T) (ok : TOK o T) (hlen : o + T.length ≤ 85) {f : Nat} (hf : f < 2 ^ 31) (x0 x1 x2 x3 : Int32) : Tr (f_X0_testWith (46 + 22 * s) (nI f) x0 x1 x2 x3 h) (fun r h1 => h1 = h ∧ ((∃ k, k < T.length ∧ r = nI (o + k) ∧ (T.getD k (0, [])).1 = f ∧ nI (chl T k 0) = x0 ∧ nI (chl T k 1) = x1 ∧ nI (chl T k 2) = x2 ∧ nI (chl T k 3) = x3) ∨ (r = -1 ∧ ∀ k, k < T.length → ¬ ((T.getD k (0, [])).1 = f ∧ nI (chl T k 0) = x0 ∧ nI (chl T k 1) = x1 ∧ nI (chl T k 2) = x2 ∧ nI (chl T k 3) = x3)))) := by
  refine Tr.ck (Lso_46 L hs) (Tr.nmx ?_)
  rw [ho1]
  refine Tr.up (N := T.length) (J := fun k x => x = (nI (o + k), h) ∧ ∀ j, j < k → ¬ ((T.getD j (0, [])).1 = f ∧ nI (chl T j 0) = x0 ∧ nI (chl T j 1) = x1 ∧ nI (chl T j 2) = x2 ∧ nI (chl T j 3) = x3)) ?_ ?_ (p := 0) ⟨rfl, fun j hj => absurd hj (Nat.not_lt_zero _)⟩ (Nat.zero_le _) (by omega)
  · intro k x kk hk hJ hk'
    obtain ⟨rfl, hJ⟩ := hJ
    dsimp only
    have hx := gD_get T (0, []) hk
    obtain ⟨g1, g2, _⟩ := GT.2 k _ hx
    obtain ⟨t1, t2, t3⟩ := ok k _ hx
    have cv : ∀ v, v < 4 → gI h (51 + 22 * s) (4 * (o + k) + v) = nI (chl T k v) := g2
    have next : (¬ ((T.getD k (0, [])).1 = f ∧ nI (chl T k 0) = x0 ∧ nI (chl T k 1) = x1 ∧ nI (chl T k 2) = x2 ∧ nI (chl T k 3) = x3)) → Tr (kk (nI (o + k) + 1, h)) _ := fun hn => by
      rw [nI_1]
      refine hk' _ ⟨rfl, fun j hj => ?_⟩
      by_cases e : j = k
      · subst e; exact hn
      · exact hJ j (by omega)
    refine Tr.ck (Lso_46 L hs) ?_
    rw [GT.1]
    refine Tr.neg (nI_ge (by omega) (by omega)) (Tr.neg (nI_ge (b := 85) (by omega) (by decide)) (Tr.gp (Lsp_46_2 L hs) (Tr.ca (Lsa_49 L hs (by omega)) ?_)))
    rw [nI_clamp (by omega), g1]
    refine Tr.cs (fun c0 => ?_) (fun c0 => Tr.nmx (next (fun z => c0 (by rw [z.1]))))
    have c0 := (nI_eq (by omega) hf).mp c0
    refine Tr.be (X0_childOf L hs (v := 0) (by omega) (by omega)) ?_
    rw [cv 0 (by decide)]
    refine Tr.cs (fun c1 => ?_) (fun c1 => Tr.nmx (next (fun z => c1 z.2.1)))
    refine Tr.ck (Lso_46 L hs) (Tr.be (X0_childOf L hs (v := 1) (by omega) (by omega)) ?_)
    rw [cv 1 (by decide)]
    refine Tr.cs (fun c2 => ?_) (fun c2 => Tr.nmx (next (fun z => c2 z.2.2.1)))
    refine Tr.ck (Lso_46 L hs) (Tr.be (X0_childOf L hs (v := 2) (by omega) (by omega)) ?_)
    rw [cv 2 (by decide)]
    refine Tr.cs (fun c3 => ?_) (fun c3 => Tr.nmx (next (fun z => c3 z.2.2.2.1)))
    refine Tr.ck (Lso_46 L hs) (Tr.be (X0_childOf L hs (v := 3) (by omega) (by omega)) ?_)
    rw [cv 3 (by decide)]
    refine Tr.cs (fun c4 => ?_) (fun c4 => Tr.nmx (next (fun z => c4 z.2.2.2.2)))
    exact Tr.ret ⟨rfl, Or.inl ⟨k, hk, rfl, c0, c1, c2, c3, c4⟩⟩
  · intro x kk hJ
    obtain ⟨rfl, hJ⟩ := hJ
    refine Tr.ck (Lso_46 L hs) ?_
    rw [GT.1]
    exact Tr.pos (nI_le (Nat.le_refl _) (by omega)) (Tr.ret ⟨rfl, Or.inr ⟨rfl, hJ⟩⟩)
variable {R S : Nat → Int64}
theorem X0_twinOfChild (L : Lay h) (hs : s < 4) (K : DgOK h s (dL R []) (cT R) (cR R)) {k v : Nat} (hk : k < (cT R).length) (hv : v < 4) : f_X0_twinOfChild (46 + 22 * s) (nI (cO R + k)) (nI v) h = some (gI h (53 + 22 * s) (chl (cT R) k v), h) := by
  apply Tr.of_eq
  have h1 : cO R ≤ 64 := K.2.2.2.2.2.1
  have h2 := K.2.2.2.2.2.2
  have h3 := chl_lt hk hv
  have e : f_X0_childOf (46 + 22 * s) (nI (cO R + k)) (nI v) h = some (nI (chl (cT R) k v), h) := X0_child L hs K hk hv
  refine Tr.ck (Lso_46 L hs) (Tr.be e (Tr.neg (nI_pos (by omega)) (Tr.neg (nI_ge (b := 85) (by omega) (by decide)) (Tr.ck (Lso_46 L hs) (Tr.gp (Lsp_46_9 L hs) (Tr.ca (Lsa_53 L hs (by omega)) (Tr.ret ⟨?_, rfl⟩)))))))
  rw [nI_clamp (by omega)]
theorem X0_tw31 (L : Lay h) (hs : s < 4) (ht : t < 4) (K : DgOK h s (dL R []) (cT R) (cR R)) (K2 : DgOK h t (dL S []) (cT S) (cR S)) {k : Nat} (hk : k < (cT R).length) (W : ∀ j, j < cO R + k → TWV R S j (gI h (53 + 22 * s) j)) : Tr (f_X0_twinOf_31 (46 + 22 * s) (nI (cO R + k)) (46 + 22 * t) h) (fun r h1 => h1 = h ∧ TWV R S (cO R + k) r) := by
  have h1 : cO R ≤ 64 := K.2.2.2.2.2.1
  have h2 := K.2.2.2.2.2.2
  have b1 : cO S ≤ 64 := K2.2.2.2.2.2.1
  have b2 := K2.2.2.2.2.2.2
  have f1 : gI h (49 + 22 * s) (cO R + k) = nI ((cT R).getD k (0, [])).1 := (dg_fld K hk).1
  have f2 := (dg_fld K hk).2
  refine Tr.ck (Lso_46 L hs) (Tr.be (X0_fieldOf L hs (n := cO R + k) (by omega)) ?_)
  rw [f1]
  refine Tr.ck (Lso_46 L hs) (Tr.be (X0_twinOfChild L hs K hk (v := 0) (by decide)) (Tr.ck (Lso_46 L hs) (Tr.be (X0_twinOfChild L hs K hk (v := 1) (by decide)) (Tr.ck (Lso_46 L hs) (Tr.be (X0_twinOfChild L hs K hk (v := 2) (by decide)) (Tr.ck (Lso_46 L hs) (Tr.be (X0_twinOfChild L hs K hk (v := 3) (by decide)) (Tr.ck (Lso_46 L ht) ?_))))))))
  have dt : DgT h t (cO S) (cT S) := K2.2.1
  have to : TOK (cO S) (cT S) := K2.2.2.1
  refine Tr.bd (X0_testWith2 (o := cO S) L ht K2.1.1 dt to (by omega) (by omega) _ _ _ _) (fun r h3 q => Tr.ret ⟨q.1, ?_⟩)
  have wv : ∀ m, m < (cT S).length → ∀ v, v < 4 → (nI (chl (cT S) m v) = gI h (53 + 22 * s) (chl (cT R) k v) ↔ twin R S (chl (cT R) k v) (chl (cT S) m v)) := fun m hm v hv => (W _ (chl_lt hk hv)).iff (by have := chl_lt hm hv; omega) (by omega)
  rcases q.2 with ⟨m, hm, rfl, e0, e1, e2, e3, e4⟩ | ⟨rfl, hn⟩
  · refine Or.inl ⟨cO S + m, (twin_ts hk).mpr ⟨m, rfl, hm, e0, fun v hv => (wv m hm v hv).mp ?_⟩, rfl⟩
    rcases (by omega : v = 0 ∨ v = 1 ∨ v = 2 ∨ v = 3) with rfl | rfl | rfl | rfl
    · exact e1
    · exact e2
    · exact e3
    · exact e4
  · refine Or.inr ⟨?_, rfl⟩
    rintro ⟨j, hj⟩
    obtain ⟨m, _, hm, e0, ev⟩ := (twin_ts hk).mp hj
    exact hn m hm ⟨e0, (wv m hm 0 (by decide)).mpr (ev 0 (by decide)), (wv m hm 1 (by decide)).mpr (ev 1 (by decide)), (wv m hm 2 (by decide)).mpr (ev 2 (by decide)), (wv m hm 3 (by decide)).mpr (ev 3 (by decide))⟩
theorem X0_twinOf (L : Lay h) (hs : s < 4) (ht : t < 4) (K : DgOK h s (dL R []) (cT R) (cR R)) (K2 : DgOK h t (dL S []) (cT S) (cR S)) {i : Nat} (hi : i < cO R + (cT R).length) (W : ∀ j, j < i → TWV R S j (gI h (53 + 22 * s) j)) : Tr (f_X0_twinOf (46 + 22 * s) (nI i) (46 + 22 * t) h) (fun r h1 => h1 = h ∧ TWV R S i r) := by
  have h1 : cO R ≤ 64 := K.2.2.2.2.2.1
  have h2 := K.2.2.2.2.2.2
  have g5 : gI h (46 + 22 * s) 5 = nI (cO R) := K.1.1
  refine Tr.ck (Lso_46 L hs) ?_
  rw [g5]
  by_cases c : i < cO R
  · have hx : (dL R [])[i]? = some ((dL R []).getD i (0, 0)) := gD_get _ _ c
    generalize hy : (dL R []).getD i (0, 0) = y at hx
    obtain ⟨a1, a2⟩ := K.1.2.1 i y hx
    have lw := X0_leafWith L ht K2.1 K2.2.2.2.2.2.1 y.1 y.2
    refine Tr.neg (nI_ge c (by omega)) (Tr.neg (nI_ge (b := 64) (by omega) (by decide)) (Tr.gp (Lsp_46_0 L hs) (Tr.ca (Lsa_47 L hs (by omega)) (Tr.gp (Lsp_46_1 L hs) (Tr.ca (Lsa_48 L hs (by omega)) (Tr.ck (Lso_46 L ht) ?_))))))
    rw [nI_clamp (by omega), a1, a2]
    have ep : (y.1, y.2) = y := rfl
    rw [ep] at lw
    refine Tr.be lw (Tr.ret ⟨rfl, ?_⟩)
    by_cases m : y ∈ dL S []
    · rw [if_pos m]
      refine Or.inl ⟨ixo (dL S []) y, (twin_lf c).mpr ⟨ixo_lt m, ?_⟩, rfl⟩
      rw [hy, List.getD_eq_getElem?_getD, ixo_get m]; rfl
    · rw [if_neg m]
      refine Or.inr ⟨?_, rfl⟩
      rintro ⟨j, hj⟩
      obtain ⟨z1, z2⟩ := (twin_lf c).mp hj
      rw [hy] at z2
      exact m (by rw [← z2]; exact gD_mem _ _ z1)
  · obtain ⟨k, rfl⟩ : ∃ k, i = cO R + k := ⟨i - cO R, by omega⟩
    exact Tr.pos (nI_le (by omega) (by omega)) (X0_tw31 L hs ht K K2 (by omega) W)
theorem X0_twinsIn (L : Lay h) (hs : s < 4) (ht : t < 4) (K : DgOK h s (dL R []) (cT R) (cR R)) (K2 : DgOK h t (dL S []) (cT S) (cR S)) : Tr (f_X0_twinsIn (46 + 22 * s) (46 + 22 * t) h) (fun r h1 => r = nI (shN R S) ∧ Fr (fun a => a = 53 + 22 * s) h h1) := by
  have h1 : cO R ≤ 64 := K.2.2.2.2.2.1
  have h2 := K.2.2.2.2.2.2
  have b1 : cO S ≤ 64 := K2.2.2.2.2.2.1
  have b2 := K2.2.2.2.2.2.2
  refine Tr.up (N := cO R + (cT R).length) (J := fun i (x : Int32 × Int32 × Hp) => x.1 = nI (fb_ct (hasTw R S) i) ∧ x.2.1 = nI i ∧ Fr (fun a => a = 53 + 22 * s) h x.2.2 ∧ ∀ j, j < i → TWV R S j (gI x.2.2 (53 + 22 * s) j)) ?_ ?_ (p := 0) ⟨rfl, rfl, Fr.rf, fun j hj => absurd hj (Nat.not_lt_zero _)⟩ (Nat.zero_le _) (by omega)
  · intro i x kk hi hJ hk'
    obtain ⟨x1, x2, h3⟩ := x
    obtain ⟨e1, e2, F, W⟩ := hJ
    dsimp only at e1 e2 F W
    subst e1 e2
    dsimp only
    have L3 := F.lay L
    have K3 : DgOK h3 s (dL R []) (cT R) (cR R) := K.fr F (fun a x y z => by omega)
    have K4 : DgOK h3 t (dL S []) (cT S) (cR S) := K2.fr F (fun a x y z => by omega)
    have g6 : gI h3 (46 + 22 * s) 6 = nI (cO R + (cT R).length) := K3.2.1.1
    refine Tr.ck (Lso_46 L3 hs) ?_
    rw [g6]
    refine Tr.neg (nI_ge hi (by omega)) (Tr.neg (nI_ge (b := 85) (by omega) (by decide)) (Tr.gp (Lsp_46_9 L3 hs) (Tr.bd (X0_twinOf L3 hs ht K3 K4 hi W) (fun r h4 q => ?_))))
    obtain ⟨rfl, V⟩ := q
    have L4 : Lay (sI h4 (53 + 22 * s) i r) := L3
    have cl := fb_ct_le (hasTw R S) i
    refine Tr.ca (Lsa_53 L3 hs (by omega)) ?_
    rw [nI_clamp (by omega)]
    refine Tr.ck (Lso_46 L4 hs) (Tr.gp (Lsp_46_9 L4 hs) (Tr.ca (Lsa_53 L4 hs (by omega)) ?_))
    rw [gI_sI, upd_eq]
    have W2 : ∀ j, j < i + 1 → TWV R S j (gI (sI h4 (53 + 22 * s) i r) (53 + 22 * s) j) := fun j hj => by
      rw [gI_sI]
      by_cases e : j = i
      · rw [e, upd_eq]; exact V
      · rw [upd_ne e]; exact W j (by omega)
    have F2 : Fr (fun a => a = 53 + 22 * s) h (sI h4 (53 + 22 * s) i r) := F.tr (Fr.sI rfl)
    rcases V with ⟨j, hj, rfl⟩ | ⟨hn, rfl⟩
    · have hjb := hj.1
      refine Tr.neg (no_m1 (by omega)) (Tr.nmx (Tr.nmx (hk' _ ⟨?_, nI_1 i, F2, W2⟩)))
      dsimp only
      rw [fb_ct_succ, if_pos (hasTw_iff.mpr ⟨j, hj⟩)]
      exact nI_1 _
    · refine Tr.pos rfl (Tr.nmx (hk' _ ⟨?_, nI_1 i, F2, W2⟩))
      dsimp only
      rw [fb_ct_succ, if_neg (fun z => hn (hasTw_iff.mp z))]
      rfl
  · intro x kk hJ
    obtain ⟨x1, x2, h3⟩ := x
    obtain ⟨e1, e2, F, W⟩ := hJ
    dsimp only at e1 e2 F W
    subst e1 e2
    dsimp only
    have K3 : DgOK h3 s (dL R []) (cT R) (cR R) := K.fr F (fun a x y z => by omega)
    have g6 : gI h3 (46 + 22 * s) 6 = nI (cO R + (cT R).length) := K3.2.1.1
    refine Tr.ck (Lso_46 (F.lay L) hs) ?_
    rw [g6]
    exact Tr.pos (nI_le (Nat.le_refl _) (by omega)) (Tr.ret ⟨rfl, F⟩)
end X0
section CLS
variable {h : Hp} {G : St}
theorem X9_sharedNodes (C : CI h G) (x y : Int32) : Tr (f_X9_sharedNodes 1 x y h) (CP h (aShared G x y)) := by
  unfold aShared
  refine X9_tw x y (X9_fl C (by decide) (by decide)) (X9_fl C (by decide) (by decide)) (fun s t hs ht e1 e2 => ?_)
  rw [e1, e2]
  refine X9_up C hs (fun h1 C1 D1 F1 => Tr.ck (Lso_35 C1.1 hs) (Tr.be (X7_diagram C1.1 hs) (X9_up C1 ht (fun h2 C2 D2 F2 => ?_))))
  have L2 := C2.1
  have D3 := D1.two F2 D2
  refine Tr.ck (Lso_35 L2 ht) (Tr.be (X7_diagram L2 ht) (Tr.ck (Lso_46 L2 hs) (Tr.bd (X0_twinsIn L2 hs ht D3.2.2.2.1 D2.2.2.2.1) (fun r h3 q => ?_))))
  obtain ⟨e3, F3⟩ := q
  have F4 : Fr (fun a => a = 53 + 22 * s) h2 h3 := F3
  have K3 : SlotOK h3 s (G.2.2.1 s) := (C2.slot hs).fr F4 (fun a x y z => by omega)
  have C3 : CI h3 G := C2.up hs K3 (F4.wk (fun a x => by unfold upR; omega))
  exact Tr.ret ⟨e3, C3, ((F1.wk (upR_cA hs)).tr (F2.wk (upR_cA ht))).tr (F4.wk (fun a x => by show 1 ≤ a ∧ a ≤ 122; omega))⟩
end CLS


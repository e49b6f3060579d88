/-! THE LAW -/
def hp0 (L : Nat) (xs : Nat → Int32) : Hp := (0, 0, (fun _ => (0, L)), (fun _ => xs), (fun _ _ => 0), (fun _ _ => none))
def G0 : St := (0, fun _ => 0, fun _ => [16], fun _ => 0, [])
theorem PP_rows : ∀ r ∈ PPt, r.length ≤ 42 := by decide +kernel
theorem PP_b {a k : Nat} (h : PP a k ≠ 0) : a < 153 ∧ k < 43 := by
  unfold PP at h
  by_cases c : a < PPt.length
  · have hr := PP_rows _ (gD_mem PPt [] c)
    refine ⟨c, ?_⟩
    by_cases d : k < (PPt.getD a []).length
    · omega
    · exact absurd (by rw [List.getD_eq_getElem?_getD, List.getElem?_eq_none (by omega)]; rfl) h
  · have e : PPt.getD a [] = [] := by rw [List.getD_eq_getElem?_getD, List.getElem?_eq_none (by omega)]; rfl
    rw [e] at h
    exact absurd rfl h
section LAW
variable {L : Nat} {xs : Nat → Int32} {t c : Nat} {W : List Nat} {h : Hp}
theorem Zi.lay {Y : List Nat} (z : Zi L xs 152 t Dfin c W Y h) : Lay h := by
  refine ⟨z.1, z.2.2.1, fun a k x h6 e => ?_⟩
  have hb : PP a k ≠ 0 := by rw [e]; omega
  obtain ⟨b1, b2⟩ := PP_b hb
  exact z.p (Dfin_ok a b1 k b2 h6 hb) e
theorem wf_1 : Wf [16] := (pre_1 rfl rfl).wf (by decide)
theorem Zi.ci (z : Zi L xs 152 t Dfin 5 (124 :: [102, 102 + 1, 102 + 2, 80, 80 + 1, 80 + 2, 58, 58 + 1, 58 + 2, 36, 36 + 1, 36 + 2, 23]) [102, 80, 58, 36] h) : CI h G0 := by
  obtain ⟨z1, z2, z3, z4, z5, z6, z7, z8, z9⟩ := id z
  refine ⟨z.lay, z6 1 1 (by decide) (by decide) (by decide), by decide, fun i hi => absurd hi (Nat.not_lt_zero _), fun e he => z6 22 e (by decide) (by decide) (by decide), fun s hs => ?_, z6 4 2 (by decide) (by decide) (by decide), fun j => 7 + 3 * j, fun j hj => ⟨(z5 j hj).2, ?_⟩, fun i j _ _ e => by dsimp only at e; omega, by decide, fun j e hj => by cases hj⟩
  · have ep : prd [16] = true := rfl
    rcases (by omega : s = 0 ∨ s = 1 ∨ s = 2 ∨ s = 3) with rfl | rfl | rfl | rfl
    · exact ⟨by show PolI h 36 [16] (prd [16]); rw [ep]; exact (z7 36 (by decide)).2, wf_1, Or.inl (z6 35 5 (by decide) (by decide) (by decide))⟩
    · exact ⟨by show PolI h 58 [16] (prd [16]); rw [ep]; exact (z7 58 (by decide)).2, wf_1, Or.inl (z6 57 5 (by decide) (by decide) (by decide))⟩
    · exact ⟨by show PolI h 80 [16] (prd [16]); rw [ep]; exact (z7 80 (by decide)).2, wf_1, Or.inl (z6 79 5 (by decide) (by decide) (by decide))⟩
    · exact ⟨by show PolI h 102 [16] (prd [16]); rw [ep]; exact (z7 102 (by decide)).2, wf_1, Or.inl (z6 101 5 (by decide) (by decide) (by decide))⟩
  · rcases (by omega : j = 0 ∨ j = 1 ∨ j = 2 ∨ j = 3 ∨ j = 4) with rfl | rfl | rfl | rfl | rfl <;> decide
theorem Zi.mi (z : Zi L xs 152 t Dfin 5 (124 :: [102, 102 + 1, 102 + 2, 80, 80 + 1, 80 + 2, 58, 58 + 1, 58 + 2, 36, 36 + 1, 36 + 2, 23]) [102, 80, 58, 36] h) (r : ∀ s, s < 4 → gI h 124 s = 1 ∧ gI h 124 (4 + 60 * s) = 1) : MI h G0 := by
  obtain ⟨z1, z2, z3, z4, z5, z6, z7, z8, z9⟩ := id z
  refine ⟨z.lay, ⟨fun s _ => wf_1, by decide, fun e he => by cases he⟩, z6 123 5 (by decide) (by decide) (by decide), by decide, fun i hi => absurd hi (Nat.not_lt_zero _), fun e he => z6 126 e (by decide) (by decide) (by decide), fun s hs => ⟨by rw [Nat.zero_add]; exact (r s hs).1, fun i hi => ?_⟩, z6 123 2 (by decide) (by decide) (by decide), fun j hj => absurd hj (Nat.not_lt_zero _)⟩
  have hi : i < 1 := hi
  have e0 : i = 0 := by omega
  subst e0
  rw [Nat.zero_add, Nat.add_zero]
  have e : nI (sg (cf [16] 0)) = 1 := by decide
  show gI h 124 (4 + 60 * s) = nI (sg (cf [16] 0))
  rw [e]
  exact (r s hs).2
theorem MP.md {α : Type} {a : α × St} {e : Option (α × Hp)} (t : Tr e (MP h a)) : Tr e (MD h a) := Tr.imp t (fun _ _ q => ⟨q.1, q.2.1, mD.of q.2.2⟩)
variable {G : St}
theorem L_call {α : Type} {a : α × St} {e1 : Option (α × Hp)} {K : α → Hp → Option (Int32 × Hp)} {Q : Int32 → Hp → Prop} (C : CI h G) (M : MI h G) (t1 : Tr e1 (CP h a)) (kk : ∀ h1, MI h1 G → CI h1 a.2 → gS h1 0 = gS h 0 → gI h1 0 = gI h 0 → Fr (fun a => 1 ≤ a) h h1 → Tr (K a.1 h1) Q) : Tr (bd e1 K) Q := by
  refine Tr.bd t1 (fun v h1 q => ?_)
  obtain ⟨rfl, C1, F1⟩ := q
  have M1 : MI h1 G := M.fr F1 (fun a x y => by have : 1 ≤ a ∧ a ≤ 122 := y; omega)
  have F2 : Fr (fun a => 1 ≤ a) h h1 := F1.wk (fun a x => x.1)
  exact kk h1 M1 C1 (by rw [F2.2.2.1]) (F2.I (by decide)) F2
theorem L_ret {α : Type} {a : α × St} {e2 : Option (α × Hp)} {K : α → Hp → Option (Int32 × Hp)} {Q : Int32 → Hp → Prop} (C : CI h a.2) (t2 : Tr e2 (MD h a)) (kk : ∀ h1, CI h1 a.2 → MI h1 a.2 → Fr (fun a => 1 ≤ a) h h1 → Tr (K a.1 h1) Q) : Tr (bd e2 K) Q := by
  refine Tr.bd t2 (fun v h1 q => ?_)
  obtain ⟨rfl, M1, F1⟩ := q
  exact kk h1 (C.fr F1 (fun a x z y => by unfold mD at y; omega)) M1 (F1.wk (fun a x => by unfold mD at x; omega))
theorem law_loop (hL : L ≤ 2560) (C : CI h G) (M : MI h G) (eS : gS h 0 = (0, L)) : Tr (loopN (fun k s => f_L_law_18 k 1 123 s.1 s.2) 5000 ((0 : Int32), h)) (fun r h1 => r = 1 ∧ Fr (fun a => 1 ≤ a) h h1) := by
  refine Tr.loop (I := fun m (x : Int32 × Hp) => ∃ i G, x.1 = nI (5 * i) ∧ m = L - 5 * i ∧ CI x.2 G ∧ MI x.2 G ∧ Fr (fun a => 1 ≤ a) h x.2 ∧ 5 * i ≤ L + 5) ?_ 5000 (L - 5 * 0) _ ⟨0, G, rfl, rfl, C, M, Fr.rf, by omega⟩ (by omega)
  intro m x k hI hk'
  obtain ⟨x1, h1⟩ := x
  obtain ⟨i, G, e1, em, C, M, F, hi⟩ := hI
  dsimp only at e1 C M F
  subst e1 em
  dsimp only
  have eS1 : gS h1 0 = (0, L) := by rw [F.2.2.1]; exact eS
  have tL : (Int32.ofNat L - 5).toInt = (L : Int) - 5 := pk_sub_toInt (a := L) (b := 5) (by omega) (by decide)
  have tI : (nI (5 * i)).toInt = 5 * i := by rw [nI_toInt (by omega)]; omega
  by_cases c : L < 5 * i + 5
  · refine Tr.pos ?_ (Tr.ret ⟨rfl, F⟩)
    rw [eS1, Int32.lt_iff_toInt_lt]
    show (Int32.ofNat L - 5).toInt < _
    rw [tL, tI]; omega
  · refine Tr.neg ?_ ?_
    · rw [eS1, Int32.lt_iff_toInt_lt]
      show ¬ (Int32.ofNat L - 5).toInt < _
      rw [tL, tI]; omega
    have rg : ∀ j, j < 5 → ¬ ((nI (5 * i) + nI j) < 0 ∨ (gS h1 0).2 ≤ (nI (5 * i) + nI j).toNatClampNeg) := fun j hj => by
      rw [nI_add, eS1]
      exact nI_in (by omega) (by omega)
    have rg0 : ¬ (nI (5 * i) < 0 ∨ (gS h1 0).2 ≤ (nI (5 * i)).toNatClampNeg) := by
      rw [eS1]
      exact nI_in (by omega) (by omega)
    have next : ∀ h2 G2, CI h2 G2 → MI h2 G2 → Fr (fun a => 1 ≤ a) h1 h2 → Tr (k (nI (5 * i) + 5, h2)) (fun r h1 => r = 1 ∧ Fr (fun a => 1 ≤ a) h h1) := fun h2 G2 C2 M2 F2 => by
      have e5 : nI (5 * i) + (5 : Int32) = nI (5 * (i + 1)) := nI_add (5 * i) 5
      rw [e5]
      exact hk' _ _ (by omega) ⟨i + 1, G2, rfl, rfl, C2, M2, F.tr F2, by omega⟩
    refine Tr.pos rg0 (Tr.nmx ?_)
    refine Tr.cs (fun _ => ?_) (fun _ => ?_)
    · refine Tr.pos (rg 1 (by decide)) (Tr.ck (Lo_1 C.1) (L_call C M (X9_append C _) (fun h2 M2 C2 eS eI F2 => ?_)))
      rw [eS, eI]
      exact Tr.pos (rg 1 (by decide)) (Tr.ck (Lo_123 M2.1) (L_ret C2 (MP.md (X10_append M2 _)) (fun h3 C3 M3 F3 => Tr.pos rfl (Tr.nmx (next h3 _ C3 M3 (F2.tr F3))))))
    refine Tr.cs (fun _ => ?_) (fun _ => ?_)
    · refine Tr.ck (Lo_1 C.1) (L_call C M (X9_clearText C) (fun h2 M2 C2 eS eI F2 => ?_))
      exact Tr.ck (Lo_123 M2.1) (L_ret C2 (MP.md (X10_clearText M2)) (fun h3 C3 M3 F3 => Tr.pos rfl (Tr.nmx (next h3 _ C3 M3 (F2.tr F3)))))
    refine Tr.cs (fun _ => ?_) (fun _ => ?_)
    · refine Tr.pos (rg 1 (by decide)) (Tr.ck (Lo_1 C.1) (L_call C M (X9_parse C _) (fun h2 M2 C2 eS eI F2 => ?_)))
      rw [eS, eI]
      exact Tr.pos (rg 1 (by decide)) (Tr.ck (Lo_123 M2.1) (L_ret C2 (MP.md (X10_parse M2 _)) (fun h3 C3 M3 F3 => Tr.pos rfl (Tr.nmx (next h3 _ C3 M3 (F2.tr F3))))))
    refine Tr.cs (fun _ => ?_) (fun _ => ?_)
    · refine Tr.pos (rg 1 (by decide)) (Tr.pos (rg 2 (by decide)) (Tr.pos (rg 3 (by decide)) (Tr.pos (rg 4 (by decide)) (Tr.ck (Lo_1 C.1) (L_call C M (X9_combine C _ _ _ _) (fun h2 M2 C2 eS eI F2 => ?_))))))
      rw [eS, eI]
      exact Tr.pos (rg 1 (by decide)) (Tr.pos (rg 2 (by decide)) (Tr.pos (rg 3 (by decide)) (Tr.pos (rg 4 (by decide)) (Tr.ck (Lo_123 M2.1) (L_ret C2 (MP.md (X10_combine M2 _ _ _ _)) (fun h3 C3 M3 F3 => Tr.pos rfl (Tr.nmx (next h3 _ C3 M3 (F2.tr F3)))))))))
    refine Tr.cs (fun _ => ?_) (fun _ => ?_)
    · refine Tr.pos (rg 1 (by decide)) (Tr.pos (rg 2 (by decide)) (Tr.pos (rg 3 (by decide)) (Tr.ck (Lo_1 C.1) (L_call C M (X9_modify C _ _ _) (fun h2 M2 C2 eS eI F2 => ?_)))))
      rw [eS, eI]
      exact Tr.pos (rg 1 (by decide)) (Tr.pos (rg 2 (by decide)) (Tr.pos (rg 3 (by decide)) (Tr.ck (Lo_123 M2.1) (L_ret C2 (MP.md (X10_modify M2 _ _ _)) (fun h3 C3 M3 F3 => Tr.pos rfl (Tr.nmx (next h3 _ C3 M3 (F2.tr F3))))))))
    refine Tr.cs (fun _ => ?_) (fun _ => ?_)
    · refine Tr.pos (rg 1 (by decide)) (Tr.ck (Lo_1 C.1) (L_call C M (X9_size C _) (fun h2 M2 C2 eS eI F2 => ?_)))
      rw [eS, eI]
      exact Tr.pos (rg 1 (by decide)) (Tr.ck (Lo_123 M2.1) (L_ret C2 (MP.md (X10_size M2 _)) (fun h3 C3 M3 F3 => Tr.pos rfl (Tr.nmx (next h3 _ C3 M3 (F2.tr F3))))))
    refine Tr.cs (fun _ => ?_) (fun _ => ?_)
    · refine Tr.pos (rg 1 (by decide)) (Tr.ck (Lo_1 C.1) (L_call C M (X9_isPredicate C _) (fun h2 M2 C2 eS eI F2 => ?_)))
      rw [eS, eI]
      exact Tr.pos (rg 1 (by decide)) (Tr.ck (Lo_123 M2.1) (L_ret C2 (MP.md (X10_isPredicate M2 _)) (fun h3 C3 M3 F3 => Tr.pos rfl (Tr.nmx (next h3 _ C3 M3 (F2.tr F3))))))
    refine Tr.cs (fun _ => ?_) (fun _ => ?_)
    · refine Tr.pos (rg 1 (by decide)) (Tr.pos (rg 2 (by decide)) (Tr.ck (Lo_1 C.1) (L_call C M (X9_printed C _ _) (fun h2 M2 C2 eS eI F2 => ?_))))
      rw [eS, eI]
      exact Tr.pos (rg 1 (by decide)) (Tr.pos (rg 2 (by decide)) (Tr.ck (Lo_123 M2.1) (L_ret C2 (MP.md (X10_printed M2 _ _)) (fun h3 C3 M3 F3 => Tr.pos rfl (Tr.nmx (next h3 _ C3 M3 (F2.tr F3)))))))
    refine Tr.cs (fun _ => ?_) (fun _ => ?_)
    · refine Tr.pos (rg 1 (by decide)) (Tr.pos (rg 2 (by decide)) (Tr.ck (Lo_1 C.1) (L_call C M (X9_outputs C _ _) (fun h2 M2 C2 eS eI F2 => ?_))))
      rw [eS, eI]
      exact Tr.pos (rg 1 (by decide)) (Tr.pos (rg 2 (by decide)) (Tr.ck (Lo_123 M2.1) (L_ret C2 (MP.md (X10_outputs M2 _ _)) (fun h3 C3 M3 F3 => Tr.pos ((lg_cmp_eq _ _).mpr rfl) (Tr.nmx (next h3 _ C3 M3 (F2.tr F3)))))))
    refine Tr.cs (fun _ => ?_) (fun _ => ?_)
    · refine Tr.pos (rg 1 (by decide)) (Tr.ck (Lo_1 C.1) (L_call C M (X9_accepted C _) (fun h2 M2 C2 eS eI F2 => ?_)))
      rw [eS, eI]
      exact Tr.pos (rg 1 (by decide)) (Tr.ck (Lo_123 M2.1) (L_ret C2 (MP.md (X10_accepted M2 _)) (fun h3 C3 M3 F3 => Tr.pos ((lg_cmp_eq _ _).mpr rfl) (Tr.nmx (next h3 _ C3 M3 (F2.tr F3))))))
    refine Tr.cs (fun _ => ?_) (fun _ => ?_)
    · refine Tr.pos (rg 1 (by decide)) (Tr.ck (Lo_1 C.1) (L_call C M (X9_spread C _) (fun h2 M2 C2 eS eI F2 => ?_)))
      rw [eS, eI]
      exact Tr.pos (rg 1 (by decide)) (Tr.ck (Lo_123 M2.1) (L_ret C2 (MP.md (X10_spread M2 _)) (fun h3 C3 M3 F3 => Tr.pos rfl (Tr.nmx (next h3 _ C3 M3 (F2.tr F3))))))
    refine Tr.cs (fun _ => ?_) (fun _ => ?_)
    · refine Tr.pos (rg 1 (by decide)) (Tr.ck (Lo_1 C.1) (L_call C M (X9_rounds C _) (fun h2 M2 C2 eS eI F2 => ?_)))
      rw [eS, eI]
      exact Tr.pos (rg 1 (by decide)) (Tr.ck (Lo_123 M2.1) (L_ret C2 (MP.md (X10_rounds M2 _)) (fun h3 C3 M3 F3 => Tr.pos rfl (Tr.nmx (next h3 _ C3 M3 (F2.tr F3))))))
    refine Tr.cs (fun _ => ?_) (fun _ => ?_)
    · refine Tr.pos (rg 1 (by decide)) (Tr.pos (rg 2 (by decide)) (Tr.ck (Lo_1 C.1) (L_call C M (X9_compare C _ _) (fun h2 M2 C2 eS eI F2 => ?_))))
      rw [eS, eI]
      exact Tr.pos (rg 1 (by decide)) (Tr.pos (rg 2 (by decide)) (Tr.ck (Lo_123 M2.1) (L_ret C2 (MP.md (X10_compare M2 _ _)) (fun h3 C3 M3 F3 => Tr.pos rfl (Tr.nmx (next h3 _ C3 M3 (F2.tr F3)))))))
    refine Tr.cs (fun _ => ?_) (fun _ => ?_)
    · refine Tr.pos (rg 1 (by decide)) (Tr.pos (rg 2 (by decide)) (Tr.ck (Lo_1 C.1) (L_call C M (X9_witness C _ _) (fun h2 M2 C2 eS eI F2 => ?_))))
      rw [eS, eI]
      exact Tr.pos (rg 1 (by decide)) (Tr.pos (rg 2 (by decide)) (Tr.ck (Lo_123 M2.1) (L_ret C2 (MP.md (X10_witness M2 _ _)) (fun h3 C3 M3 F3 => Tr.pos rfl (Tr.nmx (next h3 _ C3 M3 (F2.tr F3)))))))
    refine Tr.cs (fun _ => ?_) (fun _ => ?_)
    · refine Tr.pos (rg 1 (by decide)) (Tr.pos (rg 2 (by decide)) (Tr.ck (Lo_1 C.1) (L_call C M (X9_difference C _ _) (fun h2 M2 C2 eS eI F2 => ?_))))
      rw [eS, eI]
      exact Tr.pos (rg 1 (by decide)) (Tr.pos (rg 2 (by decide)) (Tr.ck (Lo_123 M2.1) (L_ret C2 (MP.md (X10_difference M2 _ _)) (fun h3 C3 M3 F3 => Tr.pos rfl (Tr.nmx (next h3 _ C3 M3 (F2.tr F3)))))))
    refine Tr.cs (fun _ => ?_) (fun _ => ?_)
    · refine Tr.pos (rg 1 (by decide)) (Tr.ck (Lo_1 C.1) (L_call C M (X9_diagramSize C _) (fun h2 M2 C2 eS eI F2 => ?_)))
      rw [eS, eI]
      exact Tr.pos (rg 1 (by decide)) (Tr.ck (Lo_123 M2.1) (L_ret C2 (MP.md (X10_diagramSize M2 _)) (fun h3 C3 M3 F3 => Tr.pos rfl (Tr.nmx (next h3 _ C3 M3 (F2.tr F3))))))
    refine Tr.cs (fun _ => ?_) (fun _ => ?_)
    · refine Tr.pos (rg 1 (by decide)) (Tr.ck (Lo_1 C.1) (L_call C M (X9_leaves C _) (fun h2 M2 C2 eS eI F2 => ?_)))
      rw [eS, eI]
      exact Tr.pos (rg 1 (by decide)) (Tr.ck (Lo_123 M2.1) (L_ret C2 (MP.md (X10_leaves M2 _)) (fun h3 C3 M3 F3 => Tr.pos rfl (Tr.nmx (next h3 _ C3 M3 (F2.tr F3))))))
    refine Tr.cs (fun _ => ?_) (fun _ => ?_)
    · refine Tr.pos (rg 1 (by decide)) (Tr.ck (Lo_1 C.1) (L_call C M (X9_diagramDepth C _) (fun h2 M2 C2 eS eI F2 => ?_)))
      rw [eS, eI]
      exact Tr.pos (rg 1 (by decide)) (Tr.ck (Lo_123 M2.1) (L_ret C2 (MP.md (X10_diagramDepth M2 _)) (fun h3 C3 M3 F3 => Tr.pos rfl (Tr.nmx (next h3 _ C3 M3 (F2.tr F3))))))
    refine Tr.cs (fun _ => ?_) (fun _ => ?_)
    · refine Tr.pos (rg 1 (by decide)) (Tr.pos (rg 2 (by decide)) (Tr.ck (Lo_1 C.1) (L_call C M (X9_sharedNodes C _ _) (fun h2 M2 C2 eS eI F2 => ?_))))
      rw [eS, eI]
      exact Tr.pos (rg 1 (by decide)) (Tr.pos (rg 2 (by decide)) (Tr.ck (Lo_123 M2.1) (L_ret C2 (MP.md (X10_sharedNodes M2 _ _)) (fun h3 C3 M3 F3 => Tr.pos rfl (Tr.nmx (next h3 _ C3 M3 (F2.tr F3)))))))
    refine Tr.cs (fun _ => ?_) (fun _ => ?_)
    · refine Tr.pos (rg 1 (by decide)) (Tr.ck (Lo_1 C.1) (L_call C M (X9_rows C _) (fun h2 M2 C2 eS eI F2 => ?_)))
      rw [eS, eI]
      exact Tr.pos (rg 1 (by decide)) (Tr.ck (Lo_123 M2.1) (L_ret C2 (MP.md (X10_rows M2 _)) (fun h3 C3 M3 F3 => Tr.pos rfl (Tr.nmx (next h3 _ C3 M3 (F2.tr F3))))))
    refine Tr.cs (fun _ => ?_) (fun _ => ?_)
    · refine Tr.pos (rg 1 (by decide)) (Tr.pos (rg 2 (by decide)) (Tr.pos (rg 3 (by decide)) (Tr.ck (Lo_1 C.1) (L_call C M (X9_match C _ _ _) (fun h2 M2 C2 eS eI F2 => ?_)))))
      rw [eS, eI]
      exact Tr.pos (rg 1 (by decide)) (Tr.pos (rg 2 (by decide)) (Tr.pos (rg 3 (by decide)) (Tr.ck (Lo_123 M2.1) (L_ret C2 (MP.md (X10_match M2 _ _ _)) (fun h3 C3 M3 F3 => Tr.pos rfl (Tr.nmx (next h3 _ C3 M3 (F2.tr F3))))))))
    refine Tr.cs (fun _ => ?_) (fun _ => ?_)
    · refine Tr.pos (rg 1 (by decide)) (Tr.pos (rg 2 (by decide)) (Tr.pos (rg 3 (by decide)) (Tr.ck (Lo_1 C.1) (L_call C M (X9_action C _ _ _) (fun h2 M2 C2 eS eI F2 => ?_)))))
      rw [eS, eI]
      exact Tr.pos (rg 1 (by decide)) (Tr.pos (rg 2 (by decide)) (Tr.pos (rg 3 (by decide)) (Tr.ck (Lo_123 M2.1) (L_ret C2 (MP.md (X10_action M2 _ _ _)) (fun h3 C3 M3 F3 => Tr.pos rfl (Tr.nmx (next h3 _ C3 M3 (F2.tr F3))))))))
    refine Tr.cs (fun _ => ?_) (fun _ => ?_)
    · refine Tr.pos (rg 1 (by decide)) (Tr.pos (rg 2 (by decide)) (Tr.ck (Lo_1 C.1) (L_call C M (X9_hit C _ _) (fun h2 M2 C2 eS eI F2 => ?_))))
      rw [eS, eI]
      exact Tr.pos (rg 1 (by decide)) (Tr.pos (rg 2 (by decide)) (Tr.ck (Lo_123 M2.1) (L_ret C2 (MP.md (X10_hit M2 _ _)) (fun h3 C3 M3 F3 => Tr.pos rfl (Tr.nmx (next h3 _ C3 M3 (F2.tr F3)))))))
    refine Tr.cs (fun _ => ?_) (fun _ => ?_)
    · refine Tr.pos (rg 1 (by decide)) (Tr.pos (rg 2 (by decide)) (Tr.ck (Lo_1 C.1) (L_call C M (X9_hits C _ _) (fun h2 M2 C2 eS eI F2 => ?_))))
      rw [eS, eI]
      exact Tr.pos (rg 1 (by decide)) (Tr.pos (rg 2 (by decide)) (Tr.ck (Lo_123 M2.1) (L_ret C2 (MP.md (X10_hits M2 _ _)) (fun h3 C3 M3 F3 => Tr.pos rfl (Tr.nmx (next h3 _ C3 M3 (F2.tr F3)))))))
    refine Tr.cs (fun _ => ?_) (fun _ => ?_)
    · refine Tr.ck (Lo_1 C.1) (L_call C M (X9_undo C) (fun h2 M2 C2 eS eI F2 => ?_))
      exact Tr.ck (Lo_123 M2.1) (L_ret C2 (MP.md (X10_undo M2)) (fun h3 C3 M3 F3 => Tr.pos rfl (Tr.nmx (next h3 _ C3 M3 (F2.tr F3)))))
    refine Tr.cs (fun _ => ?_) (fun _ => ?_)
    · refine Tr.pos (rg 1 (by decide)) (Tr.ck (Lo_1 C.1) (L_call C M (X9_errorCount C _) (fun h2 M2 C2 eS eI F2 => ?_)))
      rw [eS, eI]
      exact Tr.pos (rg 1 (by decide)) (Tr.ck (Lo_123 M2.1) (L_ret C2 (MP.md (X10_errorCount M2 _)) (fun h3 C3 M3 F3 => Tr.pos rfl (Tr.nmx (next h3 _ C3 M3 (F2.tr F3))))))
    refine Tr.cs (fun _ => ?_) (fun _ => ?_)
    · refine Tr.ck (Lo_1 C.1) (L_call C M (X9_digest C) (fun h2 M2 C2 eS eI F2 => ?_))
      exact Tr.ck (Lo_123 M2.1) (L_ret C2 (X10_digest M2) (fun h3 C3 M3 F3 => Tr.pos ((lg_cmp_eq _ _).mpr rfl) (Tr.nmx (next h3 _ C3 M3 (F2.tr F3)))))
    exact Tr.nmx (next h1 _ C M Fr.rf)
end LAW
theorem law_one {L : Nat} (xs : Nat → Int32) (hL : L ≤ 2560) : ∃ h1, f_L_law (hp0 L xs) = some (1, h1) ∧ gN h1 ≤ 600000 ∧ gT h1 ≤ 7302250 := by
  have z0 : Zi L xs 0 0 [] 0 [] [] (hp0 L xs) := ⟨rfl, rfl, fun a h1 h2 => absurd h2 (by omega), fun e he => (by cases he), fun i hi => absurd hi (Nat.not_lt_zero _), fun a k h1 h2 => absurd h2 (by omega), fun p hp => (by cases hp), rfl, rfl⟩
  have main : Tr (f_L_law (hp0 L xs)) (fun r h1 => r = 1 ∧ gN h1 = 152 ∧ gT h1 ≤ 7302250) := by
    refine Tr.nm (fun h1 e1 => ?_)
    have z1 := z0.nw (m := 1) (kd := 9) (len := 0) (sl := 8) rfl rfl
    rw [← e1] at z1
    rw [z0.1]
    refine Tr.bd (ini_X9_1 z1) (fun _ h4 z4 => ?_)
    refine Tr.nm (fun h5 e5 => ?_)
    have z5 := z4.nw (m := 123) (kd := 10) (len := 0) (sl := 43) rfl rfl
    rw [← e5] at z5
    rw [z4.1]
    refine Tr.bd (ini_X10_0 z5 (by decide)) (fun _ h8 q => ?_)
    obtain ⟨z8, rr⟩ := q
    have C8 : CI h8 G0 := Zi.ci z8
    have M8 : MI h8 G0 := Zi.mi z8 rr
    refine Tr.imp (law_loop hL C8 M8 z8.2.2.2.2.2.2.2.1) (fun r h9 q => ⟨q.1, by rw [q.2.1]; exact z8.1, ?_⟩)
    rw [q.2.2.1, z8.2.1]
    decide
  obtain ⟨r, h1, e, er, e2, e3⟩ := main
  exact ⟨h1, by rw [e, er], by omega, e3⟩

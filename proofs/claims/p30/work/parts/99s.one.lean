/-! THE LAW -/
def hp0 (L : Nat) (xs : Nat → Int32) : Hp := (0, 0, (fun _ => (0, L)), (fun _ => xs), (fun _ _ => 0), (fun _ _ => none))
def G0 : St := (0, fun _ => 0, fun _ => [16], fun _ => 0, [])
theorem PP_rows : ∀ r ∈ PPt, r.length ≤ 11 := by decide +kernel
theorem PP_b {a k : Nat} (h : PP a k ≠ 0) : a < 123 ∧ k < 12 := by
  unfold PP at h
  by_cases c : a < PPt.length
  · have hr := PP_rows _ (gD_mem PPt [] c)
    refine ⟨c, ?_⟩
    by_cases d : k < (PPt.getD a []).length
    · omega
    · exact absurd (by rw [List.getD_eq_getElem?_getD, List.getElem?_eq_none (by omega)]; rfl) h
  · have e : PPt.getD a [] = [] := by rw [List.getD_eq_getElem?_getD, List.getElem?_eq_none (by omega)]; rfl
    rw [e] at h
    exact absurd rfl h
section LAW
variable {L : Nat} {xs : Nat → Int32} {t c : Nat} {W : List Nat} {h : Hp}
theorem Zi.lay {Y : List Nat} (z : Zi L xs 122 t Dfin c W Y h) : Lay h := by
  refine ⟨z.1, z.2.2.1, fun a k x h6 e => ?_⟩
  have hb : PP a k ≠ 0 := by rw [e]; omega
  obtain ⟨b1, b2⟩ := PP_b hb
  exact z.p (Dfin_ok a b1 k b2 h6 hb) e
theorem wf_1 : Wf [16] := (pre_1 rfl rfl).wf (by decide)
theorem Zi.ci (z : Zi L xs 122 t Dfin 5 [102, 102 + 1, 102 + 2, 80, 80 + 1, 80 + 2, 58, 58 + 1, 58 + 2, 36, 36 + 1, 36 + 2, 23] [102, 80, 58, 36] h) : CI h G0 := by
  obtain ⟨z1, z2, z3, z4, z5, z6, z7, z8, z9⟩ := id z
  refine ⟨z.lay, z6 1 1 (by decide) (by decide) (by decide), by decide, fun i hi => absurd hi (Nat.not_lt_zero _), fun e he => z6 22 e (by decide) (by decide) (by decide), fun s hs => ?_, z6 4 2 (by decide) (by decide) (by decide), fun j => 7 + 3 * j, fun j hj => ⟨(z5 j hj).2, ?_⟩, fun i j _ _ e => by dsimp only at e; omega, by decide, fun j e hj => by cases hj⟩
  · have ep : prd [16] = true := rfl
    rcases (by omega : s = 0 ∨ s = 1 ∨ s = 2 ∨ s = 3) with rfl | rfl | rfl | rfl
    · exact ⟨by show PolI h 36 [16] (prd [16]); rw [ep]; exact (z7 36 (by decide)).2, wf_1, Or.inl (z6 35 5 (by decide) (by decide) (by decide))⟩
    · exact ⟨by show PolI h 58 [16] (prd [16]); rw [ep]; exact (z7 58 (by decide)).2, wf_1, Or.inl (z6 57 5 (by decide) (by decide) (by decide))⟩
    · exact ⟨by show PolI h 80 [16] (prd [16]); rw [ep]; exact (z7 80 (by decide)).2, wf_1, Or.inl (z6 79 5 (by decide) (by decide) (by decide))⟩
    · exact ⟨by show PolI h 102 [16] (prd [16]); rw [ep]; exact (z7 102 (by decide)).2, wf_1, Or.inl (z6 101 5 (by decide) (by decide) (by decide))⟩
  · rcases (by omega : j = 0 ∨ j = 1 ∨ j = 2 ∨ j = 3 ∨ j = 4) with rfl | rfl | rfl | rfl | rfl <;> decide
end LAW
theorem law_one {L : Nat} (xs : Nat → Int32) (hL : L ≤ 260) : ∃ h1, f_L_law (hp0 L xs) = some (1, h1) ∧ gN h1 ≤ 600000 ∧ gT h1 ≤ 7302250 := by
  have z0 : Zi L xs 0 0 [] 0 [] [] (hp0 L xs) := ⟨rfl, rfl, fun a h1 h2 => absurd h2 (by omega), fun e he => (by cases he), fun i hi => absurd hi (Nat.not_lt_zero _), fun a k h1 h2 => absurd h2 (by omega), fun p hp => (by cases hp), rfl, rfl⟩
  have main : Tr (f_L_law (hp0 L xs)) (fun r h1 => r = 1 ∧ gN h1 = 122 ∧ gT h1 ≤ 7302250) := by
    refine Tr.nm (fun h1 e1 => ?_)
    have z1 := z0.nw (m := 1) (kd := 9) (len := 0) (sl := 8) rfl rfl
    rw [← e1] at z1
    rw [z0.1]
    refine Tr.bd (ini_X9_1 z1) (fun _ h4 z4 => ?_)
    have C4 : CI h4 G0 := Zi.ci z4
    have W4 : WS h4 h4 G0 := ⟨C4, Fr.rf⟩
    have hS : (gS h4 0).2 ≤ 260 := by rw [z4.2.2.2.2.2.2.2.1]; exact hL
    have eu : aUndo G0 = (-6, failS G0 4) := rfl
    have l0 : Int32.ofNat 0 = 0 := rfl
    refine lce W4 (X9_undo W4.1) eu (fun h5 W5 => Tr.pos rfl ?_)
    refine lk (L_isDrawn (a := 0) (b := 1) W5 (by decide) (by decide)) (fun h6 G6 W6 => Tr.neg (by decide) ?_)
    refine lk (L_isHit (s := 2) (p := 27) W6 (by decide) (by decide)) (fun h7 G7 W7 => Tr.neg (by decide) ?_)
    refine lk (L_isCompared (a := 0) (b := 3) W7 (by decide) (by decide)) (fun h8 G8 W8 => Tr.neg (by decide) ?_)
    refine Tr.imp (law_loop W8 hS) (fun r h9 q => ⟨q.1, by rw [q.2.1]; exact z4.1, ?_⟩)
    rw [q.2.2.1, z4.2.1]
    decide
  obtain ⟨r, h1, e, er, e2, e3⟩ := main
  exact ⟨h1, by rw [e, er], by omega, e3⟩

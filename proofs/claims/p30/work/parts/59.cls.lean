/-! THE CLASS: undo -/
section CLU
variable {h : Hp} {G : St}
def aUndo (G : St) : Int32 × St := match G.2.2.2.2.getLast? with
  | none => (-6, failS G 4)
  | some e => (nI (G.2.2.2.2.length - 1), (G.1, G.2.1, va_up G.2.2.1 e.1 e.2, G.2.2.2.1, G.2.2.2.2.dropLast))
theorem X9_undo (C : CI h G) : Tr (f_X9_undo 1 h) (CP h (aUndo G)) := by
  have L := C.1
  obtain ⟨c1, c2, c3, c4, c5, c6, c7⟩ := id C
  unfold aUndo
  rcases List.eq_nil_or_concat G.2.2.2.2 with e | ⟨Hs, x, e⟩
  · rw [e] at c7 ⊢
    refine Tr.ck (Lo_1 L) (Tr.gp (Lp_1_3 L) (Tr.ck (Lo_4 L) (Tr.be (r := -1) (h1 := h) ?_ (Tr.be (X9_slN (Or.inl (by decide)) h) ?_))))
    · apply Tr.of_eq
      exact Tr.ck (Lo_4 L) (Tr.pos (by rw [c7.1]; decide) (Tr.ret ⟨rfl, rfl⟩))
    · refine Tr.pos rfl (X9_fl (e := 4) (f := fun v => v) C (by decide) (by decide))
  · rw [List.concat_eq_append] at e
    rw [e] at c7 ⊢
    rw [List.getLast?_append, List.getLast?_singleton, List.dropLast_concat]
    obtain ⟨d, pj, P⟩ := c7
    have h5 := P.2.2.1
    rw [List.length_append, List.length_singleton] at h5 d ⊢
    obtain ⟨g1, g2, g3, g4⟩ := P.2.2.2 Hs.length x (by rw [List.getElem?_append_right (Nat.le_refl _), Nat.sub_self]; rfl)
    have hp := HL_PA _ (P.1 Hs.length (by omega)).2
    have hPA : PA (pj Hs.length) := hp.1
    show Tr _ (CP h (nI (Hs.length + 1 - 1), (G.1, G.2.1, va_up G.2.2.1 x.1 x.2, G.2.2.2.1, Hs)))
    have es : gI h 4 2 - 1 = nI Hs.length := by rw [d]; exact pk_sub (a := Hs.length + 1) (b := 1) (by omega)
    have n0 : ¬ gI h 4 2 ≤ 0 := by
      rw [d]; exact nI_ge (a := 0) (b := Hs.length + 1) (by omega) (by omega)
    have n5 : ¬ (5 : Int32) < gI h 4 2 := by
      rw [d]; exact nI_nlt (a := 5) (b := Hs.length + 1) (by omega) (by omega)
    refine Tr.ck (Lo_1 L) (Tr.gp (Lp_1_3 L) (Tr.ck (Lo_4 L) (Tr.be (r := nI x.1) (h1 := h) ?_ (Tr.be (X9_slY g2 h) (Tr.neg (by decide) (Tr.ck (Lo_1 L) (Tr.gp (Lp_1_2 L) ?_)))))))
    · apply Tr.of_eq
      refine Tr.ck (Lo_4 L) (Tr.neg n0 (Tr.neg n5 (Tr.gp (Lp_4_0 L) ?_)))
      rw [es]
      refine Tr.ca (La_5 L (by omega)) (Tr.ret ⟨?_, rfl⟩)
      rw [nI_clamp (by omega)]; exact g1
    refine Tr.ca (La_3 L g2) ?_
    rw [nI_clamp (by omega)]
    refine Tr.gp (Lp_3 L g2) (Tr.gp (Lp_1_3 L) (Tr.ck (Lo_4 L) (Tr.be (r := pj Hs.length) (h1 := h) ?_ ?_)))
    · apply Tr.of_eq
      refine Tr.ck (Lo_4 L) (Tr.gp (Lp_4_1 L) (Tr.neg n0 (Tr.neg n5 ?_)))
      rw [es]
      refine Tr.ca (La_6 L (by omega)) ?_
      rw [nI_clamp (by omega)]
      exact Tr.gp (P.1 _ (by omega)).1 (Tr.ret ⟨rfl, rfl⟩)
    refine Tr.ck (Lso_35 L g2) (Tr.bd (X7_hold L g2 hPA (by omega) g3 g4) (fun _ h1 z => ?_))
    obtain ⟨K1, F1⟩ := z
    have L1 := F1.lay L
    have o4 : ∀ a, a ≤ 34 → ¬ hoR x.1 a := fun a y z => by unfold hoR at z; omega
    have d1 : gI h1 4 = gI h 4 := F1.I (o4 4 (by decide))
    have F2 : Fr (fun a => a = 4) h1 (sI h1 4 2 (nI Hs.length)) := Fr.sI rfl
    have FF : Fr (fun a => a = 4 ∨ hoR x.1 a) h (sI h1 4 2 (nI Hs.length)) := (F1.wk (fun a x => Or.inr x)).tr (F2.wk (fun a x => Or.inl x))
    have L2 : Lay (sI h1 4 2 (nI Hs.length)) := F2.lay L1
    refine Tr.ck (Lo_1 L1) (Tr.gp (Lp_1_3 L1) (Tr.ck (Lo_4 L1) (Tr.be (r := ()) (h1 := sI h1 4 2 (nI Hs.length)) ?_ ?_)))
    · apply Tr.of_eq
      refine Tr.ck (Lo_4 L1) ?_
      rw [d1]
      refine Tr.neg n0 ?_
      rw [es]
      exact Tr.ret ⟨rfl, rfl⟩
    have H2 : HiOK (sI h1 4 2 (nI Hs.length)) Hs := by
      refine ⟨by rw [gI_sI, upd_eq], pj, ⟨fun j hj => ?_, P.2.1, by omega, fun j y hj => ?_⟩⟩
      · rw [FF.2.2.2.1 6 (Or.inr (fun z => z.elim (by decide) (o4 6 (by decide))))]; exact P.1 j hj
      · have hlt := (List.getElem?_eq_some_iff.mp hj).1
        obtain ⟨k1, k2, k3, k4⟩ := P.2.2.2 j y (by rw [List.getElem?_append_left hlt]; exact hj)
        have hpj := HL_PA _ (P.1 j (by omega)).2
        refine ⟨?_, k2, ?_, k4⟩
        · rw [FF.I (fun z => z.elim (by decide) (o4 5 (by decide)))]; exact k1
        · refine k3.fr FF ?_ ?_ ?_ <;> (rintro (z | z); omega; unfold hoR at z; omega)
    have FI : ∀ a, a ≤ 34 → a ≠ 4 → gI (sI h1 4 2 (nI Hs.length)) a = gI h a := fun a h1 h2 => FF.I (fun z => z.elim h2 (o4 a h1))
    refine Tr.ck (Lo_1 L2) (Tr.gp (Lp_1_3 L2) (Tr.ck (Lo_4 L2) (Tr.be (X2_savedCount L2 H2) (Tr.ret ⟨rfl, ⟨L2, ?_, c3, ?_, ?_, fun s hs => ?_, H2⟩, FF.wk (fun a z => ?_)⟩))))
    · rw [FI 1 (by decide) (by decide)]; exact c2
    · rw [FI 2 (by decide) (by decide)]; exact c4
    · rw [FI 22 (by decide) (by decide)]; exact c5
    · show SlotOK _ s (va_up G.2.2.1 x.1 x.2 s)
      by_cases es : s = x.1
      · subst es; rw [upd_eq]
        exact K1.fr F2 (fun a y z w => by unfold slR at y; omega)
      · rw [upd_ne es]
        exact (c6 s hs).fr FF (fun a y z w => by unfold slR at y; rcases w with w | w; omega; unfold hoR at w; omega)
    · rcases z with z | z
      · show 1 ≤ a ∧ a ≤ 122; omega
      · unfold hoR at z; show 1 ≤ a ∧ a ≤ 122; omega
end CLU

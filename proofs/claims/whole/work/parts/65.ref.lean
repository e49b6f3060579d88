/-! THE REFERENCE: saving, keeping, undoing -/
theorem undS_app (A B : List (Nat × List Nat)) (S : Nat → List Nat) : undS (A ++ B) S = undS A (undS B S) := by unfold undS; rw [List.foldr_append]
theorem va_up_back (S : Nat → List Nat) (t : Nat) (m : List Nat) : va_up (va_up S t m) t (S t) = S := by
  funext i
  by_cases e : i = t
  · subst e; rw [upd_eq]
  · rw [upd_ne e, upd_ne e]
theorem undS_wf {S : Nat → List Nat} {P : List Nat → Prop} (hS : ∀ s, s < 4 → P (S s)) : ∀ {H : List (Nat × List Nat)}, (∀ e ∈ H, P e.2) → ∀ s, s < 4 → P (undS H S s) := by
  intro H
  induction H with
  | nil => intro _ s hs; exact hS s hs
  | cons e t ih =>
    intro hH s hs
    show P (va_up (undS t S) e.1 e.2 s)
    by_cases c : s = e.1
    · subst c; rw [upd_eq]; exact hH e List.mem_cons_self
    · rw [upd_ne c]; exact ih (fun x hx => hH x (List.mem_cons_of_mem _ hx)) s hs
section REF
variable {h : Hp} {G : St}
theorem MI.past_len (M : MI h G) (j : Nat) : ∀ s, s < 4 → (undS (G.2.2.2.2.drop j) G.2.2.1 s).length ≤ 60 :=
  undS_wf (P := fun l => l.length ≤ 60) (fun s hs => (M.2.1.1 s hs).2.2.1) (fun e he => (M.2.1.2.2 e (List.mem_of_mem_drop he)).2.2.2.1)
/-- what is saved: the history Hs (dropped by one if full), then now -/
theorem X10_saves (M : MI h G) : Tr (f_X10_saves 123 h) (fun _ h1 => ∃ Hx, (Hx = if G.2.2.2.2.length < 5 then G.2.2.2.2 else G.2.2.2.2.tail) ∧ gI h1 123 2 = nI (Hx.length + 1) ∧ (∀ i, i ≠ 2 → gI h1 123 i = gI h 123 i) ∧ (∀ j, j < Hx.length → RowN (gI h1 125) (244 * j) (undS (Hx.drop j) G.2.2.1)) ∧ RowN (gI h1 125) (244 * Hx.length) G.2.2.1 ∧ Fr (fun a => a = 123 ∨ a = 125) h h1) := by
  obtain ⟨m1, m2, m3, m4, m5, m6, m7, m8, m9⟩ := id M
  have h5 := m2.2.1
  have S60 : ∀ s, s < 4 → (G.2.2.1 s).length ≤ 60 := fun s hs => (m2.1 s hs).2.2.1
  refine Tr.ck (Lo_123 m1) ?_
  rw [m8]
  by_cases hl : G.2.2.2.2.length < 5
  · refine Tr.neg (nI_ne (b := 5) (by omega) (by omega) (by omega)) (Tr.imp (X10_saves51 m1 hl m8) (fun _ h1 q => ⟨G.2.2.2.2, by rw [if_pos hl], q.1, q.2.1, fun j hj => ?_, ?_, q.2.2.2⟩))
    · exact (m9 j hj).cp (M.past_len j) (fun k hk => by rw [q.2.2.1, if_neg (by omega)])
    · refine m7.cp S60 (fun k hk => ?_)
      rw [q.2.2.1, if_pos (by omega), Nat.zero_add, Nat.add_sub_cancel_left]
  · have e5 : G.2.2.2.2.length = 5 := by omega
    have et : G.2.2.2.2.tail.length = 4 := by rw [List.length_tail, e5]
    refine Tr.pos (by rw [e5]; rfl) ?_
    refine Tr.up (N := 976) (J := fun k x => x.1 = nI k ∧ (∀ i, gI x.2 125 i = if i < k then gI h 125 (i + 244) else gI h 125 i) ∧ Fr (fun a => a = 125) h x.2) ?_ ?_ (p := 0) ⟨rfl, fun i => by rw [if_neg (by omega)], Fr.rf⟩ (Nat.zero_le _) (by omega)
    · intro k x kk hk hJ hk'
      obtain ⟨x1, h1⟩ := x
      obtain ⟨e, B1, F1⟩ := hJ
      dsimp only at e B1 F1
      subst e
      dsimp only
      have L1 := F1.lay m1
      refine Tr.neg (nI_ge (b := 976) hk (by decide)) (Tr.ck (Lo_123 L1) (Tr.gp (Lp_123_1 L1) (Tr.gp (Lp_123_1 L1) ?_)))
      have e1 : nI k + (244 : Int32) = nI (k + 244) := by
        rw [show (244 : Int32) = nI 244 from rfl, nI_add]
      rw [e1, nI_clamp (by omega), nI_clamp (by omega)]
      refine Tr.ca (La_125 L1 (by omega)) (Tr.ca (La_125 L1 (by omega)) (Tr.nmx (hk' _ ⟨nI_1 k, fun i => ?_, F1.tr (Fr.sI rfl)⟩)))
      dsimp only
      rw [gI_sI]
      by_cases ei : i = k
      · subst ei
        rw [upd_eq, if_pos (by omega), B1, if_neg (by omega)]
      · rw [upd_ne ei, B1 i]
        by_cases c : i < k
        · rw [if_pos c, if_pos (by omega)]
        · rw [if_neg c, if_neg (by omega)]
    · intro x kk hJ
      obtain ⟨x1, h1⟩ := x
      obtain ⟨e, B1, F1⟩ := hJ
      dsimp only at e B1 F1
      subst e
      dsimp only
      have L1 := F1.lay m1
      have e3 : gI h1 123 = gI h 123 := F1.I (by decide)
      refine Tr.pos (nI_le (b := 976) (Nat.le_refl _) (by decide)) (Tr.ck (Lo_123 L1) ?_)
      rw [e3, m8, e5, show nI 5 - 1 = nI 4 from pk_sub (a := 5) (b := 1) (by decide)]
      have L2 : Lay (sI h1 123 2 (nI 4)) := L1
      have FA : Fr (fun a => a = 123 ∨ a = 125) h (sI h1 123 2 (nI 4)) := (F1.wk (fun a x => Or.inr x)).tr (Fr.sI (Or.inl rfl))
      refine Tr.imp (X10_saves51 L2 (n := 4) (by decide) (by rw [gI_sI, upd_eq])) (fun _ h2 q => ⟨G.2.2.2.2.tail, (if_neg (by decide)).symm, by rw [et]; exact q.1, fun i hi => by rw [q.2.1 i hi, gI_sI, upd_ne hi, e3], fun j hj => ?_, ?_, FA.tr q.2.2.2⟩)
      · rw [et] at hj
        have hd : G.2.2.2.2.tail.drop j = G.2.2.2.2.drop (j + 1) := by rw [← List.drop_one, List.drop_drop, Nat.add_comm]
        rw [hd]
        refine (m9 (j + 1) (by omega)).cp (M.past_len (j + 1)) (fun k hk => ?_)
        rw [q.2.2.1, if_neg (by omega), gI_sI_ne (by decide), B1, if_pos (by omega), show 244 * j + k + 244 = 244 * (j + 1) + k by omega]
      · rw [et]
        refine m7.cp S60 (fun k hk => ?_)
        rw [q.2.2.1, if_pos (by omega), gI_sI_ne (by decide), F1.I (show ¬ (124 = 125) by decide), Nat.zero_add, Nat.add_sub_cancel_left]
theorem X10_keeps (M : MI h G) {t : Nat} {m : List Nat} (ht : t < 4) (P : Pre m 1) (h60 : m.length ≤ 60) (K : MkR h m) : Tr (f_X10_keeps 123 (nI t) h) (MP h (nI m.length, stoS G t m)) := by
  obtain ⟨m1, m2, m3, m4, m5, m6, m7, m8, m9⟩ := id M
  have h5 := m2.2.1
  refine Tr.ck (Lo_123 m1) (Tr.bd (X10_saves M) (fun _ h1 q => ?_))
  obtain ⟨Hx, eHx, q1, q2, q3, q4, F1⟩ := q
  have L1 := F1.lay m1
  have hxl : Hx.length ≤ 4 ∧ ∀ e ∈ Hx, e ∈ G.2.2.2.2 := by
    rw [eHx]
    by_cases c : G.2.2.2.2.length < 5
    · rw [if_pos c]; exact ⟨by omega, fun e he => he⟩
    · rw [if_neg c]; exact ⟨by rw [List.length_tail]; omega, fun e he => List.mem_of_mem_tail he⟩
  have I1 : ∀ a, a ≠ 123 → a ≠ 125 → gI h1 a = gI h a := fun a x y => F1.I (fun z => z.elim x y)
  have k1 : gI h1 123 7 = nI m.length := by rw [q2 7 (by decide)]; exact K.1
  refine Tr.ck (Lo_123 L1) (Tr.gp (Lp_123_0 L1) (Tr.ca (La_124 L1 (by omega)) ?_))
  rw [k1, nI_clamp (by omega)]
  have F0 : Fr (fun a => a = 124) h1 (sI h1 124 t (nI m.length)) := Fr.sI rfl
  refine Tr.up (N := m.length) (J := fun k x => x.1 = nI k ∧ (∀ i, gI x.2 124 i = if 4 + 60 * t ≤ i ∧ i < 4 + 60 * t + k then gI h 128 (i - (4 + 60 * t)) else va_up (gI h 124) t (nI m.length) i) ∧ Fr (fun a => a = 124) h1 x.2) ?_ ?_ (p := 0) ⟨rfl, fun i => by rw [if_neg (by omega), gI_sI, I1 124 (by decide) (by decide)], F0⟩ (Nat.zero_le _) (by omega)
  · intro k x kk hk hJ hk'
    obtain ⟨x1, h2⟩ := x
    obtain ⟨e, B2, F2⟩ := hJ
    dsimp only at e B2 F2
    subst e
    dsimp only
    have L2 := F2.lay L1
    refine Tr.ck (Lo_123 L2) ?_
    rw [F2.I (show ¬ (123 = 124) by decide), k1]
    refine Tr.neg (nI_ge (b := m.length) hk (by omega)) (Tr.gp (Lp_123_0 L2) (Tr.gp (Lp_123_6 L2) (Tr.ca (La_128 L2 (by omega)) ?_)))
    have e1 : ((4 : Int32) + (60 : Int32) * nI t) + nI k = nI (4 + 60 * t + k) := by
      rw [show (60 : Int32) = nI 60 from rfl, show (4 : Int32) = nI 4 from rfl, pk_mul, nI_add, nI_add]
    rw [e1, nI_clamp (by omega), nI_clamp (by omega), F2.I (show ¬ (128 = 124) by decide), I1 128 (by decide) (by decide)]
    refine Tr.ca (La_124 L2 (by omega)) (Tr.nmx (hk' _ ⟨nI_1 k, fun i => ?_, F2.tr (Fr.sI rfl)⟩))
    dsimp only
    rw [gI_sI]
    by_cases ei : i = 4 + 60 * t + k
    · subst ei
      rw [upd_eq, if_pos (by omega), Nat.add_sub_cancel_left]
    · rw [upd_ne ei, B2 i]
      by_cases c : 4 + 60 * t ≤ i ∧ i < 4 + 60 * t + k
      · rw [if_pos c, if_pos (by omega)]
      · rw [if_neg c, if_neg (by omega)]
  · intro x kk hJ
    obtain ⟨x1, h2⟩ := x
    obtain ⟨e, B2, F2⟩ := hJ
    dsimp only at e B2 F2
    subst e
    dsimp only
    have L2 := F2.lay L1
    have FF : Fr (fun a => a = 123 ∨ a = 124 ∨ a = 125) h h2 := (F1.wk (fun a x => by omega)).tr (F2.wk (fun a x => by omega))
    have e123 : gI h2 123 = gI h1 123 := F2.I (by decide)
    refine Tr.ck (Lo_123 L2) ?_
    rw [e123, k1]
    refine Tr.pos (nI_le (b := m.length) (Nat.le_refl _) (by omega)) (Tr.ret ⟨rfl, ⟨L2, ⟨fun s hs => ?_, ?_, fun e he => ?_⟩, ?_, m4, ?_, ?_, ?_, ?_, ?_⟩, FF.wk (fun a x => by show 123 ≤ a; omega)⟩)
    · show Wf (va_up G.2.2.1 t m s)
      by_cases e : s = t
      · subst e; rw [upd_eq]; exact P.wf h60
      · rw [upd_ne e]; exact m2.1 s hs
    · show (hSave G.2.2.2.2 t (G.2.2.1 t)).length ≤ 5
      unfold hSave
      rw [← eHx, List.length_append, List.length_singleton]; omega
    · have he : e ∈ hSave G.2.2.2.2 t (G.2.2.1 t) := he
      unfold hSave at he
      rw [← eHx] at he
      rcases List.mem_append.mp he with z | z
      · exact m2.2.2 e (hxl.2 e z)
      · rw [List.mem_singleton.mp z]; exact ⟨ht, m2.1 t ht⟩
    · rw [e123, q2 5 (by decide)]; exact m3
    · rw [FF.I (by omega)]; exact m5
    · rw [FF.I (by omega)]; exact m6
    · intro s hs
      show gI h2 124 (0 + s) = nI (va_up G.2.2.1 t m s).length ∧ ∀ i, i < (va_up G.2.2.1 t m s).length → gI h2 124 (0 + (4 + 60 * s + i)) = nI (sg (cf (va_up G.2.2.1 t m s) i))
      rw [Nat.zero_add]
      have w60 := (m2.1 s hs).2.2.1
      by_cases e : s = t
      · subst e
        rw [upd_eq]
        refine ⟨by rw [B2, if_neg (by omega), upd_eq], fun i hi => ?_⟩
        rw [Nat.zero_add, B2, if_pos (by omega), Nat.add_sub_cancel_left]
        exact K.2 i hi
      · rw [upd_ne e]
        refine ⟨by rw [B2, if_neg (by omega), upd_ne e]; exact (M.slot hs).2.1, fun i hi => ?_⟩
        rw [Nat.zero_add, B2, if_neg (by omega), upd_ne (by omega)]
        exact (M.slot hs).2.2 i hi
    · show gI h2 123 2 = nI (hSave G.2.2.2.2 t (G.2.2.1 t)).length
      unfold hSave
      rw [← eHx, e123, q1, List.length_append, List.length_singleton]
    · intro j hj
      have hj : j < (hSave G.2.2.2.2 t (G.2.2.1 t)).length := hj
      show RowN (gI h2 125) (244 * j) (undS ((hSave G.2.2.2.2 t (G.2.2.1 t)).drop j) (va_up G.2.2.1 t m))
      unfold hSave at hj ⊢
      rw [← eHx] at hj ⊢
      rw [List.length_append, List.length_singleton] at hj
      rw [F2.I (show ¬ (125 = 124) by decide), List.drop_append_of_le_length (by omega), undS_app]
      have e9 : undS [(t, G.2.2.1 t)] (va_up G.2.2.1 t m) = G.2.2.1 := va_up_back _ _ _
      rw [e9]
      by_cases c : j < Hx.length
      · exact q3 j c
      · have : j = Hx.length := by omega
        subst this
        rw [List.drop_length]
        exact q4
theorem X10_undo (M : MI h G) : Tr (f_X10_undo 123 h) (MP h (aUndo G)) := by
  obtain ⟨m1, m2, m3, m4, m5, m6, m7, m8, m9⟩ := id M
  unfold aUndo
  refine Tr.ck (Lo_123 m1) ?_
  rcases List.eq_nil_or_concat G.2.2.2.2 with e | ⟨Hs, x, e⟩
  · rw [m8, e]
    exact Tr.pos rfl (Tr.be (X10_fails m1 (e := 4) (by decide) (by decide)) (Tr.ret ⟨rfl, M.errs (by decide), Fr.sI (by show 123 ≤ 126; decide)⟩))
  · rw [List.concat_eq_append] at e
    have pl := M.past_len
    rw [m8]
    rw [e] at m8 m9 pl ⊢
    have m2' := m2
    unfold OKG at m2'
    rw [e] at m2'
    rw [List.getLast?_append, List.getLast?_singleton, List.dropLast_concat]
    have h5 := m2'.2.1
    rw [List.length_append, List.length_singleton] at h5 m8 m9 ⊢
    show Tr _ (MP h (nI (Hs.length + 1 - 1), (G.1, G.2.1, va_up G.2.2.1 x.1 x.2, G.2.2.2.1, Hs)))
    have hx := m2'.2.2 x (List.mem_append_right _ List.mem_cons_self)
    refine Tr.neg (fun z => nI_ne (a := Hs.length + 1) (b := 0) (by omega) (by omega) (by omega) z) ?_
    rw [show nI (Hs.length + 1) - 1 = nI Hs.length from pk_sub (a := Hs.length + 1) (b := 1) (by omega)]
    have S60 : ∀ s, s < 4 → (va_up G.2.2.1 x.1 x.2 s).length ≤ 60 := fun s hs => by
      by_cases c : s = x.1
      · subst c; rw [upd_eq]; exact hx.2.2.2.1
      · rw [upd_ne c]; exact (m2.1 s hs).2.2.1
    refine Tr.up (N := 244) (J := fun k x => x.1 = nI k ∧ (∀ i, gI x.2 124 i = if i < k then gI h 125 (244 * Hs.length + i) else gI h 124 i) ∧ gI x.2 123 2 = nI Hs.length ∧ (∀ i, i ≠ 2 → gI x.2 123 i = gI h 123 i) ∧ Fr (fun a => a = 123 ∨ a = 124) h x.2) ?_ ?_ (p := 0) ⟨rfl, fun i => by rw [if_neg (by omega), gI_sI_ne (by decide)], by rw [gI_sI, upd_eq], fun i hi => by rw [gI_sI, upd_ne hi], Fr.sI (Or.inl rfl)⟩ (Nat.zero_le _) (by omega)
    · intro k y kk hk hJ hk'
      obtain ⟨y1, h1⟩ := y
      obtain ⟨e, B1, c1, c2, F1⟩ := hJ
      dsimp only at e B1 c1 c2 F1
      subst e
      dsimp only
      have L1 := F1.lay m1
      refine Tr.neg (nI_ge (b := 244) hk (by decide)) (Tr.ck (Lo_123 L1) (Tr.gp (Lp_123_0 L1) (Tr.gp (Lp_123_1 L1) ?_)))
      have e1 : (244 : Int32) * nI Hs.length + nI k = nI (244 * Hs.length + k) := by
        rw [show (244 : Int32) = nI 244 from rfl, pk_mul, nI_add]
      rw [c1, e1, nI_clamp (by omega), nI_clamp (by omega), F1.I (show ¬ (125 = 123 ∨ 125 = 124) by decide)]
      refine Tr.ca (La_125 L1 (by omega)) (Tr.ca (La_124 L1 hk) (Tr.nmx (hk' _ ⟨nI_1 k, fun i => ?_, by rw [gI_sI_ne (by decide)]; exact c1, fun i hi => by rw [gI_sI_ne (by decide)]; exact c2 i hi, F1.tr (Fr.sI (Or.inr rfl))⟩)))
      dsimp only
      rw [gI_sI]
      by_cases ei : i = k
      · subst ei
        rw [upd_eq, if_pos (by omega)]
      · rw [upd_ne ei, B1 i]
        by_cases c : i < k
        · rw [if_pos c, if_pos (by omega)]
        · rw [if_neg c, if_neg (by omega)]
    · intro y kk hJ
      obtain ⟨y1, h1⟩ := y
      obtain ⟨e, B1, c1, c2, F1⟩ := hJ
      dsimp only at e B1 c1 c2 F1
      subst e
      dsimp only
      have L1 := F1.lay m1
      refine Tr.pos (nI_le (b := 244) (Nat.le_refl _) (by decide)) (Tr.ck (Lo_123 L1) (Tr.ret ⟨c1, ⟨L1, ⟨fun s hs => ?_, by show Hs.length ≤ 5; omega, fun e he => m2'.2.2 e (List.mem_append_left _ he)⟩, ?_, m4, ?_, ?_, ?_, c1, ?_⟩, F1.wk (fun a x => by show 123 ≤ a; omega)⟩))
      · show Wf (va_up G.2.2.1 x.1 x.2 s)
        by_cases c : s = x.1
        · subst c; rw [upd_eq]; exact hx.2
        · rw [upd_ne c]; exact m2.1 s hs
      · rw [c2 5 (by decide)]; exact m3
      · rw [F1.I (by decide)]; exact m5
      · rw [F1.I (by decide)]; exact m6
      · have r := m9 Hs.length (by omega)
        rw [List.drop_append_of_le_length (Nat.le_refl _), List.drop_length] at r
        exact RowN.cp (S := va_up G.2.2.1 x.1 x.2) r S60 (fun k hk => by rw [Nat.zero_add, B1, if_pos hk])
      · intro j hj
        have hj : j < Hs.length := hj
        rw [F1.I (by decide)]
        have r := m9 j (by omega)
        rw [List.drop_append_of_le_length (by omega), undS_app] at r
        exact r
end REF

/-! THE CLASS'S PARSER: the text's end, and the call -/
section PAR
variable {h : Hp} {G : St} {l : List Nat} {F : FrS}
theorem X3_finish (L : Lay h) {n : Nat} {q : PQy} (hn : n ≤ 150) (V : PV n q) (P : PaI h q) : Tr (f_X3_finish 23 (nI n) h) (fun _ h1 => (∃ e, pfn n q = Sum.inl e ∧ gI h1 23 9 = nI e ∧ e < 2 ^ 31 ∧ Fr prR h h1) ∨ ∃ l, pfn n q = Sum.inr l ∧ gI h1 23 9 = -1 ∧ PolI h1 27 l (prd l) ∧ Pre l 1 ∧ l.length < 2 ^ 30 ∧ Fr prR h h1) := by
  obtain ⟨⟨l, F⟩, st, a, b⟩ := q
  obtain ⟨P1, e6, _, _, e9⟩ := P
  dsimp only at P1 e6
  refine Tr.ck (Lo_23 L) ?_
  rw [e6]
  rcases V with ⟨h0, V⟩ | ⟨h0, _⟩
  · dsimp only at h0 V
    subst h0
    have ef : pfn n ((l, F), 3, a, b) = (match cNot l F with
      | Sum.inl e => Sum.inl e
      | Sum.inr s1 => pfC n s1) := if_pos rfl
    rw [ef]
    refine Tr.pos rfl (Tr.bd (X3_endFactor L V (by omega) (by omega) P1 e9) (fun _ h1 q => ?_))
    unfold cFac at q
    cases hn' : cNot l F with
    | inl x =>
      rw [hn'] at q
      rcases q with ⟨e, ee, E, X⟩ | ⟨s, es, _⟩
      · cases ee
        have L1 := E.2.2.lay L
        refine Tr.ck (Lo_23 L1) (Tr.be (X3_endUnionE L1 E.2.1 E.1) (Tr.ck (Lo_23 L1) ?_))
        rw [E.1]
        exact Tr.neg (no_m1 E.2.1) (Tr.imp (X3_fin42E L1 X E.1) (fun _ h2 q => Or.inl ⟨x, rfl, q.1, E.2.1, E.2.2.tr q.2⟩))
      · cases es
    | inr s1 =>
      rw [hn'] at q
      rcases q with ⟨e, ee, _⟩ | ⟨s, es, P2, Q2⟩
      · cases ee
      cases es
      obtain ⟨w1, w2⟩ := CV.nots V hn'
      have W1 := w1.pair (k := 2) (c := 80) (Or.inr rfl) rfl rfl
      have L2 := Q2.1.lay L
      have g9 : gI h1 23 9 = -1 := by rw [Q2.2 9 (by decide)]; exact e9
      have epf : pfC n s1 = (match cCond (cPair 1 64 (cPair 2 80 s1)) with
        | Sum.inl e => Sum.inl e
        | Sum.inr s2 => if s2.2.length = 0 then Sum.inr s2.1 else Sum.inl n) := rfl
      show Tr _ (fun _ h1 => (∃ e, pfC n s1 = Sum.inl e ∧ _) ∨ ∃ l, pfC n s1 = Sum.inr l ∧ _)
      rw [epf]
      generalize cPair 2 80 s1 = t at P2 W1
      obtain ⟨l1, F1⟩ := t
      dsimp only at P2
      refine Tr.ck (Lo_23 L2) (Tr.bd (X3_endUnion L2 W1 (by omega) (by omega) P2 g9) (fun _ h2 q => ?_))
      rcases q with ⟨e, ee, E, X⟩ | ⟨s, es, P3, Q3⟩
      · have L3 := E.2.2.lay L2
        rw [ee]
        refine Tr.ck (Lo_23 L3) ?_
        rw [E.1]
        exact Tr.neg (no_m1 E.2.1) (Tr.imp (X3_fin42E L3 X E.1) (fun _ h3 q => Or.inl ⟨e, rfl, q.1, E.2.1, (Q2.1.tr E.2.2).tr q.2⟩))
      · have L3 := Q3.1.lay L2
        have W2 := W1.pair (k := 1) (c := 64) (Or.inl rfl) rfl rfl
        rw [← cCond_is es] at W2
        rw [es]
        have i9 : gI h2 23 9 = -1 := by rw [Q3.2 9 (by decide)]; exact g9
        obtain ⟨l2, F2⟩ := s
        obtain ⟨z1, z2, z3, z4, z5⟩ := W2
        dsimp only at P3 z1 z2 z3 z4 z5
        have hBl := sB_len z1
        refine Tr.ck (Lo_23 L3) (Tr.pos i9 ?_)
        rw [P3.2.1]
        cases F2 with
        | nil =>
          refine Tr.pos (by decide) (Tr.imp (X3_fin42 L3 P3 (by omega)) (fun _ h3 q => Or.inr ⟨l2, rfl, by rw [q.2.2]; exact i9, q.1, z1, by omega, (Q2.1.tr Q3.1).tr q.2.1⟩))
        | cons f F2 =>
          rw [List.length_cons] at z3 ⊢
          refine Tr.neg (nI_nle (by omega) (by omega)) (Tr.imp (X3_fin42E (fr_fld.lay L3 : Lay (sI h2 23 9 (nI n))) ⟨_, _, _, P3.fld (by decide), by omega⟩ err9) (fun _ h3 q => Or.inl ⟨n, rfl, q.1, by omega, ((Q2.1.tr Q3.1).tr fr_fld).tr q.2⟩))
  · dsimp only at h0
    have ef : pfn n ((l, F), st, a, b) = Sum.inl n := if_neg (show ¬ st = 3 by omega)
    exact Tr.neg (nI_ne (b := 3) (by omega) (by decide) (by omega)) (Tr.ret (Or.inl ⟨n, ef, err9, by omega, fr_fld⟩))
theorem X3_rd136 (L : Lay h) {h0 : Hp} (F0 : Fr prR h0 h) {n : Nat} {q : PQy} (hn : n ≤ 150) (V : PV n q) (P : PaI h q) : Tr (f_X3_read_136 23 (nI n) h) (RdQ h0 (pfn n q)) := by
  refine Tr.ck (Lo_23 L) (Tr.pos P.2.2.2.2 (Tr.bd (X3_finish L hn V P) (fun _ h1 q => ?_)))
  rcases q with ⟨e, a, b, c, d⟩ | ⟨l, a, b, c, d, f, g⟩
  · exact Tr.ck (Lo_23 (d.lay L)) (Tr.ret (Or.inl ⟨e, a, b, c, F0.tr d⟩))
  · exact Tr.ck (Lo_23 (g.lay L)) (Tr.ret (Or.inr ⟨l, a, b, c, d, f, F0.tr g⟩))
theorem X3_rd136E (L : Lay h) {h0 : Hp} {e : Nat} {R : Nat ⊕ List Nat} (hR : R = Sum.inl e) (E : SQe h0 e h) (x : Int32) : Tr (f_X3_read_136 23 x h) (RdQ h0 R) := by
  refine Tr.ck (Lo_23 L) ?_
  rw [E.1]
  exact Tr.neg (no_m1 E.2.1) (Tr.ret (Or.inl ⟨e, hR, rfl, E.2.1, E.2.2⟩))
theorem X3_read (C : CI h G) : Tr (f_X3_read 23 2 (nI G.1) 3 h) (RdQ h (prn G.2.2.1 G.2.1 G.1 G.1 q0)) := by
  have L := C.1
  have hn := C.2.2.1
  have wf : ∀ t, t < 4 → Wf (G.2.2.1 t) := fun t ht => (C.slot ht).2.1
  have bytes := C.2.2.2.1
  refine Tr.ck (Lo_23 L) (Tr.gp (Lp_23_5 L) (Tr.ck (Lpo L PA27) (Tr.bd (X4_start L PA27) (fun _ h1 q => ?_))))
  obtain ⟨Q1, F1⟩ := q
  have F1 : Fr prR h h1 := F1.wk (fun a x => by unfold pR at x; unfold prR; omega)
  refine Tr.ck (Lo_23 (F1.lay L)) (Tr.nm (fun h2 e2 => ?_))
  have F2 : Fr prR h h2 := by rw [e2]; exact ((F1.tr fr_fld).tr fr_fld).tr fr_fld
  have ge : ∀ a, a ≠ 23 → gI h2 a = gI h1 a := fun a ha => by rw [e2, gI_sI_ne ha, gI_sI_ne ha, gI_sI_ne ha]
  have P2 : PaI (sI h2 23 9 (-1)) q0 := by
    refine ⟨⟨?_, ?_, trivial, trivial, ?_, trivial⟩, ?_, fun z => absurd z (by decide : ¬ ((0 : Nat) = 1 ∨ (0 : Nat) = 2)), fun z => absurd z (by decide : ¬ (0 : Nat) = 2), by rw [gI_sI, upd_eq]⟩
    · unfold PolI; rw [gI_sI_ne (by decide), gI_sI_ne (by decide), gI_sI_ne (by decide), ge 27 (by decide), ge 28 (by decide), ge 29 (by decide)]; exact Q1
    · rw [gI_sI, upd_ne (by decide), e2, gI_sI, upd_ne (by decide), gI_sI, upd_ne (by decide), gI_sI, upd_eq]; rfl
    · rw [gI_sI, upd_ne (by decide), e2, gI_sI, upd_ne (by decide), gI_sI, upd_eq]; rfl
    · rw [gI_sI, upd_ne (by decide), e2, gI_sI, upd_eq]; rfl
  have F3 : Fr prR h (sI h2 23 9 (-1)) := F2.tr fr_fld
  generalize sI h2 23 9 (-1) = h3 at P2 F3
  generalize hR : prn G.2.2.1 G.2.1 G.1 G.1 q0 = R
  refine Tr.up (N := G.1) (J := fun i (x : Int32 × Hp) => x.1 = nI i ∧ ((∃ q, PV i q ∧ PaI x.2 q ∧ Fr prR h x.2 ∧ prn G.2.2.1 G.2.1 G.1 (G.1 - i) q = R) ∨ ∃ e, R = Sum.inl e ∧ SQe h e x.2)) ?_ ?_ (p := 0) ⟨rfl, Or.inl ⟨q0, PV_0, P2, F3, hR⟩⟩ (Nat.zero_le _) (by omega)
  · intro i x kk hi hJ hk'
    obtain ⟨x1, h4⟩ := x
    obtain ⟨e1, hJ⟩ := hJ
    dsimp only at e1 hJ
    subst e1
    dsimp only
    refine Tr.neg (nI_ge hi (by omega)) ?_
    rcases hJ with ⟨q, V, P, F4, eR⟩ | ⟨e, eR, E⟩
    · have L4 := F4.lay L
      have C4 := C.pr F4
      refine Tr.ck (Lk_2 L4) ?_
      rw [Ln_2 L4]
      refine Tr.neg (show ¬ (Int32.ofNat 150 ≤ nI i) from nI_ge (b := 150) (by omega) (by decide)) (Tr.ck (Lo_23 L4) (Tr.pos P.2.2.2.2 ?_))
      rw [P.2.1]
      obtain ⟨b1, b2⟩ := C4.2.2.2.1 i hi
      have er : prn G.2.2.1 G.2.1 G.1 (G.1 - i) q = match pst G.2.2.1 i (G.2.1 i) q with
        | Sum.inl e => Sum.inl e
        | Sum.inr q2 => prn G.2.2.1 G.2.1 G.1 (G.1 - (i + 1)) q2 := by
        obtain ⟨k, hk⟩ : ∃ k, G.1 - i = k + 1 := ⟨G.1 - i - 1, by omega⟩
        have hk2 : G.1 - (i + 1) = k := by omega
        rw [hk, hk2]
        have hk3 : G.1 - (k + 1) = i := by omega
        show (match pst G.2.2.1 (G.1 - (k + 1)) (G.2.1 (G.1 - (k + 1))) q with
          | Sum.inl e => Sum.inl e
          | Sum.inr q2 => prn G.2.2.1 G.2.1 G.1 k q2) = _
        rw [hk3]
      rw [er] at eR
      have next : ∀ h5, SQq h4 (pst G.2.2.1 i (G.2.1 i) q) h5 → Tr (kk (nI i + 1, h5)) (RdQ h R) := fun h5 z => by
        rw [nI_1]
        refine hk' _ ⟨rfl, ?_⟩
        rcases z with ⟨e, a, b⟩ | ⟨q2, a, b, c⟩
        · rw [a] at eR
          exact Or.inr ⟨e, eR.symm, b.tr F4⟩
        · rw [a] at eR
          exact Or.inl ⟨q2, V.step (by omega) wf a, b, F4.tr c, eR⟩
      obtain ⟨⟨l, F⟩, st, a, b⟩ := q
      have hst : st ≤ 3 := by
        rcases V with ⟨z, _⟩ | ⟨z, _⟩
        · dsimp only at z; omega
        · dsimp only at z; omega
      dsimp only
      have P0 := P
      refine Tr.nmx ?_
      by_cases s0 : st = 0
      · subst s0
        refine Tr.pos rfl (Tr.ca (La_2 L4 (by omega)) ?_)
        rw [nI_clamp (by omega), b1]
        exact Tr.bd (X3_takeFactor C4 (by omega) b2 V P) (fun _ h5 z => Tr.nmx (next h5 z))
      refine Tr.neg (nI_ne (b := 0) (by omega) (by decide) s0) ?_
      by_cases s1 : st = 1
      · subst s1
        refine Tr.pos rfl (Tr.ca (La_2 L4 (by omega)) ?_)
        rw [nI_clamp (by omega), b1]
        exact Tr.bd (X3_takeSign L4 (by omega) b2 P) (fun _ h5 z => Tr.nmx (next h5 z))
      refine Tr.neg (nI_ne (b := 1) (by omega) (by decide) s1) ?_
      by_cases s2 : st = 2
      · subst s2
        refine Tr.pos rfl (Tr.ca (La_2 L4 (by omega)) ?_)
        rw [nI_clamp (by omega), b1]
        exact Tr.bd (X3_takeDigit L4 (by omega) b2 V P) (fun _ h5 z => Tr.nmx (next h5 z))
      refine Tr.neg (nI_ne (b := 2) (by omega) (by decide) s2) (Tr.ca (La_2 L4 (by omega)) ?_)
      rw [nI_clamp (by omega), b1]
      have s3 : st = 3 := by omega
      subst s3
      obtain ⟨P1, e6, _, _, e9⟩ := P
      rcases V with ⟨_, V3⟩ | ⟨z, _⟩
      · exact Tr.bd (X3_takeBehind L4 V3 (by omega) b2 P1 e6 e9) (fun _ h5 z => Tr.nmx (next h5 z))
      · exact absurd z (by decide : ¬ (3 : Nat) < 3)
    · have L4 := E.2.2.lay L
      refine Tr.ck (Lk_2 L4) ?_
      rw [Ln_2 L4]
      refine Tr.neg (show ¬ (Int32.ofNat 150 ≤ nI i) from nI_ge (b := 150) (by omega) (by decide)) (Tr.ck (Lo_23 L4) ?_)
      rw [E.1]
      exact Tr.neg (no_m1 E.2.1) (X3_rd136E L4 eR E _)
  · intro x kk hJ
    obtain ⟨x1, h4⟩ := x
    obtain ⟨e1, hJ⟩ := hJ
    dsimp only at e1 hJ
    subst e1
    dsimp only
    refine Tr.pos (nI_le (Nat.le_refl _) (by omega)) ?_
    rcases hJ with ⟨q, V, P, F4, eR⟩ | ⟨e, eR, E⟩
    · rw [Nat.sub_self] at eR
      have eR : pfn G.1 q = R := eR
      rw [← eR]
      exact X3_rd136 (F4.lay L) F4 hn V P
    · exact X3_rd136E (E.2.2.lay L) eR E _
theorem X9_parse (C : CI h G) (x : Int32) : Tr (f_X9_parse 1 x h) (CP h (aParse G x)) := by
  unfold aParse
  refine X9_os x (fun e => ?_) (fun t ht e e2 => ?_)
  · rw [e]; exact X9_fl C (by decide) (by decide)
  · rw [e2, e]
    dsimp only
    have L := C.1
    have wk : ∀ {h1}, Fr prR h h1 → Fr cA h h1 := fun F => F.wk (fun a x => by unfold prR at x; show 1 ≤ a ∧ a ≤ 122; omega)
    refine Tr.ck (Lo_1 L) (Tr.gp (Lp_1_5 L) (Tr.gp (Lp_1_0 L) (Tr.gp (Lp_1_2 L) (Tr.ck (Lo_23 L) ?_))))
    rw [C.2.1]
    refine Tr.bd (X3_read C) (fun r h1 q => ?_)
    rcases q with ⟨er, a, rfl, hb, F1⟩ | ⟨l, a, rfl, Q1, Pl, hl, F1⟩
    · rw [a]
      exact Tr.neg (no_m1 hb) (Tr.ret ⟨rfl, C.pr F1, wk F1⟩)
    · rw [a]
      have C1 := C.pr F1
      have L1 := C1.1
      refine Tr.pos rfl (Tr.ck (Lo_1 L1) (Tr.gp (Lp_1_5 L1) (Tr.ck (Lo_23 L1) (Tr.be (r := 27) (h1 := h1) ?_ (Tr.ck (Lo_1 L1) (Tr.bd (X9_store C1 ht PA27 (by decide) (by decide) Q1 Pl hl) (fun v h2 q => Tr.ret ⟨q.1, q.2.1, (wk F1).tr q.2.2⟩)))))))
      exact Tr.of_eq (Tr.ck (Lo_23 L1) (Tr.gp (Lp_23_5 L1) (Tr.ret ⟨rfl, rfl⟩)))
end PAR

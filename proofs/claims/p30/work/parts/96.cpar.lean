/-! THE CLASS'S PARSER: a byte -/
/-- behind a step: an error, or what stands -/
def SQe (h0 : Hp) (e : Nat) (h1 : Hp) : Prop := gI h1 23 9 = nI e ∧ e < 2 ^ 31 ∧ Fr prR h0 h1
def PaI (h : Hp) (q : PQy) : Prop := PaS h q.1.1 q.1.2 (sB q.1.1) ∧ gI h 23 6 = nI q.2.1 ∧ (q.2.1 = 1 ∨ q.2.1 = 2 → gI h 23 7 = nI q.2.2.1) ∧ (q.2.1 = 2 → gI h 23 8 = nI q.2.2.2) ∧ gI h 23 9 = -1
def SQp (h0 : Hp) (R : Nat ⊕ PSy) (h1 : Hp) : Prop := (∃ e, R = Sum.inl e ∧ SQe h0 e h1 ∧ ∃ l F B, PaS h1 l F B ∧ B.length ≤ 150) ∨ ∃ s, R = Sum.inr s ∧ PaS h1 s.1 s.2 (sB s.1) ∧ QFr h0 h1
def SQq (h0 : Hp) (R : Nat ⊕ PQy) (h1 : Hp) : Prop := (∃ e, R = Sum.inl e ∧ SQe h0 e h1) ∨ ∃ q, R = Sum.inr q ∧ PaI h1 q ∧ Fr prR h0 h1
/-- the negations, then a sequence -/
def cFac (l : List Nat) (F : FrS) : Nat ⊕ PSy := match cNot l F with
  | Sum.inl e => Sum.inl e
  | Sum.inr s => Sum.inr (cPair 2 80 s)
section PAR
variable {h : Hp} {l : List Nat} {F : FrS}
theorem X3_ef70 (L : Lay h) {h0 : Hp} {N n : Nat} (V : CV N n (l, F)) (hn : n ≤ 150) (hN : N < 2 ^ 30) (P : PaS h l F (sB l)) (e9 : gI h 23 9 = -1) (Q0 : QFr h0 h) : Tr (f_X3_endFactor_70 23 h) (fun _ h1 => PaS h1 (cPair 2 80 (l, F)).1 (cPair 2 80 (l, F)).2 (sB (cPair 2 80 (l, F)).1) ∧ QFr h0 h1) :=
  Tr.ck (Lo_23 L) (Tr.bd (X3_seq L V hn hN P e9) (fun _ h1 q => Tr.ret ⟨q.1, Q0.tr q.2⟩))
theorem X3_ef70E (L : Lay h) {e : Nat} (he : e < 2 ^ 31) (e9 : gI h 23 9 = nI e) : f_X3_endFactor_70 23 h = some ((), h) :=
  Tr.of_eq (Tr.ck (Lo_23 L) (Tr.be (X3_endPairE L he e9 2 5) (Tr.ret ⟨rfl, rfl⟩)))
theorem X3_endFactor (L : Lay h) {N n : Nat} (V : CV N n (l, F)) (hn : n ≤ 150) (hN : N < 2 ^ 30) (P : PaS h l F (sB l)) (e9 : gI h 23 9 = -1) : Tr (f_X3_endFactor 23 h) (fun _ h1 => SQp h (cFac l F) h1) := by
  refine Tr.ck (Lo_23 L) (Tr.nmx ?_)
  rw [P.2.1]
  generalize hR : cFac l F = R
  refine Tr.loop (I := fun m (s : Int32 × Hp) => (∃ l F, s.1 = nI F.length ∧ m = F.length + 1 ∧ CV N n (l, F) ∧ PaS s.2 l F (sB l) ∧ QFr h s.2 ∧ gI s.2 23 9 = -1 ∧ cFac l F = R) ∨ (m = 0 ∧ ∃ e, R = Sum.inl e ∧ SQe h e s.2 ∧ ∃ l F, F.length ≤ 150 ∧ (sB l).length ≤ 150 ∧ PaS s.2 l F (sB l))) ?_ 5000 (F.length + 1) _ (Or.inl ⟨l, F, rfl, rfl, V, P, QFr.rf, e9, hR⟩) (by have := V.2.2.1; dsimp only at this; omega)
  intro m s k hI hk'
  obtain ⟨s1, h1⟩ := s
  dsimp only at hI ⊢
  rcases hI with ⟨l, F, e1, em, V1, P1, Q1, g9, eR⟩ | ⟨em, e, eR, E1, l, F, hF, hB, P1⟩
  · subst e1 em
    have L1 := Q1.1.lay L
    have hFl := V1.2.2.1
    have hc1 := V1.2.2.2.1
    have hBl := sB_len V1.1
    dsimp only at hFl hc1 hBl
    have done : hk F ≠ 3 → Tr (f_X3_endFactor_70 23 h1) (fun _ h1 => SQp h R h1) := fun hne => by
      have ec : cFac l F = Sum.inr (cPair 2 80 (l, F)) := by
        unfold cFac
        cases F with
        | nil => rfl
        | cons f F =>
          have : cNot l (f :: F) = Sum.inr (l, f :: F) := if_neg hne
          rw [this]
      refine Tr.imp (X3_ef70 L1 V1 hn hN P1 g9 Q1) (fun _ h2 q => Or.inr ⟨_, by rw [← eR, ec], q.1, q.2⟩)
    cases F with
    | nil => exact Tr.pos (by decide) (done (by decide : (0 : Nat) ≠ 3))
    | cons f F =>
      rw [List.length_cons] at hFl ⊢
      refine Tr.neg (nI_nle (by omega) (by omega)) (Tr.ck (Lo_23 L1) (Tr.be (X3_inner L1 P1 (by rw [List.length_cons]; omega)) ?_))
      have hb : hk (f :: F) ≤ 7 := V1.2.1.2.2.1
      by_cases c : hk (f :: F) = 3
      · rw [c]
        have top := X3_top L1 P1 (by omega)
        refine Tr.pos rfl (Tr.ck (Lo_23 L1) (Tr.pos g9 (Tr.be top ?_)))
        cases ct : (sB l).getD 0 false with
        | false =>
          have ec : cFac l (f :: F) = Sum.inl (stt (f :: F)) := by
            unfold cFac
            have : cNot l (f :: F) = Sum.inl (f.2.1 + 1) := by
              unfold cNot
              rw [if_pos (show f.1 = 3 from c), if_neg (by unfold topP; rw [ct]; decide)]
            rw [this]; rfl
          refine Tr.pos rfl (Tr.ck (Lo_23 L1) (Tr.be (X3_ibeg L1 P1 (by rw [List.length_cons]; omega)) (Tr.ck (Lo_23 L1) (Tr.nmx (hk' 0 _ (by omega) (Or.inr ⟨rfl, stt (f :: F), by rw [← eR, ec], ⟨err9, stt_b V1.2.1, Q1.1.tr fr_fld⟩, l, f :: F, by rw [List.length_cons]; omega, by omega, P1.fld (by decide)⟩))))))
        | true =>
          have ec : cFac (l ++ [112]) F = R := by
            rw [← eR]
            unfold cFac
            have : cNot l (f :: F) = cNot (l ++ [112]) F := by
              show (if f.1 = 3 then (if topP l then cNot (l ++ [112]) F else Sum.inl (f.2.1 + 1)) else Sum.inr (l, f :: F)) = _
              rw [if_pos (show f.1 = 3 from c), if_pos (by unfold topP; exact ct)]
            rw [this]
          have V2 := V1.no (show f.1 = 3 from c)
          have hl := V1.2.2.2.2
          dsimp only at hl
          have es : sB (l ++ [112]) = sB l := by
            obtain ⟨a0, t, est⟩ := st_one (st := sB l) (by omega)
            rw [sB_snoc, est]
            rfl
          refine Tr.neg (by decide) (Tr.ck (Lo_23 L1) (Tr.gp (Lp_23_5 L1) (Tr.ck (Lpo L1 PA27) (Tr.bd (X3_add L1 P1 (by omega) (kd := 7) (f := 0) (v := 0) (by decide) (by decide) (by decide)) (fun _ h2 q => ?_)))))
          obtain ⟨P2, Q2⟩ := q
          have L2 := Q2.1.lay L1
          obtain ⟨P3, Q3⟩ := P2.shut
          refine Tr.ck (Lo_23 L2) (Tr.nmx ?_)
          rw [pk_m1]
          refine hk' (F.length + 1) _ (by rw [List.length_cons]; omega) (Or.inl ⟨l ++ [112], F, rfl, rfl, V2, ?_, (Q1.tr Q2).tr Q3, by rw [Q3.2 9 (by decide), Q2.2 9 (by decide)]; exact g9, ec⟩)
          rw [es]
          exact P3
      · exact Tr.neg (nI_ne (a := hk (f :: F)) (b := 3) (by omega) (by decide) c) (done c)
  · subst em
    have L1 := E1.2.2.lay L
    have out : Tr (f_X3_endFactor_70 23 h1) (fun _ h1 => SQp h R h1) := Tr.eq (X3_ef70E L1 E1.2.1 E1.1) (Or.inl ⟨e, eR, E1, l, F, sB l, P1, hB⟩)
    refine Tr.cs (fun _ => out) (fun _ => Tr.ck (Lo_23 L1) (Tr.be (X3_inner L1 P1 hF) (Tr.cs (fun _ => Tr.ck (Lo_23 L1) ?_) (fun _ => out))))
    rw [E1.1]
    exact Tr.neg (no_m1 E1.2.1) out
theorem X3_endUnion (L : Lay h) {N n : Nat} (V : CV N n (l, F)) (hn : n ≤ 150) (hN : N < 2 ^ 30) (P : PaS h l F (sB l)) (e9 : gI h 23 9 = -1) : Tr (f_X3_endUnion 23 h) (fun _ h1 => SQp h (cCond (cPair 1 64 (l, F))) h1) := by
  have V1 := V.pair (k := 1) (c := 64) (Or.inl rfl) rfl rfl
  refine Tr.ck (Lo_23 L) (Tr.bd (X3_uni L V hn hN P e9) (fun _ h1 q => ?_))
  obtain ⟨P1, Q1⟩ := q
  have L1 := Q1.1.lay L
  have g9 : gI h1 23 9 = -1 := by rw [Q1.2 9 (by decide)]; exact e9
  generalize cPair 1 64 (l, F) = s at V1 P1
  obtain ⟨l1, F1⟩ := s
  have hFl := V1.2.2.1
  have hc1 := V1.2.2.2.1
  have hBl := sB_len V1.1
  dsimp only at hFl hc1 hBl P1
  have hb : hk F1 ≤ 7 := by
    cases F1 with
    | nil => exact Nat.zero_le _
    | cons f F1 => exact V1.2.1.2.2.1
  refine Tr.ck (Lo_23 L1) (Tr.pos g9 (Tr.be (X3_inner L1 P1 (by omega)) ?_))
  by_cases c : hk F1 = 5
  · rw [c]
    have top := X3_top L1 P1 (by omega)
    refine Tr.pos rfl (Tr.ck (Lo_23 L1) (Tr.be top ?_))
    cases F1 with
    | nil => exact absurd c (by decide : ¬ (0 : Nat) = 5)
    | cons f F1 =>
      have ec : cCond (l1, f :: F1) = if topP l1 then Sum.inr (l1, f :: F1) else Sum.inl (f.2.1 + 1) := if_pos (show f.1 = 5 from c)
      cases ct : (sB l1).getD 0 false with
      | false =>
        rw [if_neg (by unfold topP; rw [ct]; decide)] at ec
        exact Tr.pos rfl (Tr.ck (Lo_23 L1) (Tr.be (X3_ibeg L1 P1 (by omega)) (Tr.ck (Lo_23 L1) (Tr.ret (Or.inl ⟨_, ec, ⟨err9, stt_b V1.2.1, Q1.1.tr fr_fld⟩, _, _, _, P1.fld (by decide), by omega⟩)))))
      | true =>
        rw [if_pos (by unfold topP; exact ct)] at ec
        exact Tr.neg (by decide) (Tr.ret (Or.inr ⟨_, ec, P1, Q1⟩))
  · have ec : cCond (l1, F1) = Sum.inr (l1, F1) := by
      cases F1 with
      | nil => rfl
      | cons f F1 => exact if_neg c
    exact Tr.neg (nI_ne (by omega) (by decide) c) (Tr.ret (Or.inr ⟨_, ec, P1, Q1⟩))
theorem X3_endUnionE (L : Lay h) {e : Nat} (he : e < 2 ^ 31) (e9 : gI h 23 9 = nI e) : f_X3_endUnion 23 h = some ((), h) := by
  apply Tr.of_eq
  refine Tr.ck (Lo_23 L) (Tr.be (X3_endPairE L he e9 1 4) (Tr.ck (Lo_23 L) ?_))
  rw [e9]
  exact Tr.neg (no_m1 he) (Tr.ret ⟨rfl, rfl⟩)
theorem X3_endChoice (L : Lay h) {N n : Nat} {m : Nat} (hp : Pre l (m + 3)) (hm : m + 3 ≤ 150) (hl : l.length < 2 ^ 30) (P : PaS h l F (sB l)) : Tr (f_X3_endChoice 23 h) (fun _ h1 => PaS h1 (l ++ [128]) F (sB (l ++ [128])) ∧ QFr h h1) := by
  have hlen := sB_len hp
  obtain ⟨a0, a1, a2, t, es⟩ := st_three (st := sB l) (by omega)
  have esn : sB (l ++ [128]) = (a1 && a0) :: t := by rw [sB_snoc, es]; rfl
  rw [esn]
  rw [es] at P hlen
  rw [List.length_cons, List.length_cons, List.length_cons] at hlen
  refine Tr.ck (Lo_23 L) (Tr.gp (Lp_23_5 L) (Tr.ck (Lpo L PA27) (Tr.bd (X3_add L P hl (kd := 8) (f := 0) (v := 0) (by decide) (by decide) (by decide)) (fun _ h1 q => ?_))))
  obtain ⟨P1, F1⟩ := q
  have L1 := F1.1.lay L
  refine Tr.ck (Lo_23 L1) (Tr.bd (X3_pop L1 P1 (by rw [List.length_cons, List.length_cons]; omega)) (fun r1 h2 q => ?_))
  obtain ⟨rfl, P2, F2⟩ := q
  have L2 := F2.1.lay L1
  refine Tr.ck (Lo_23 L2) (Tr.bd (X3_pop L2 P2 (by rw [List.length_cons]; omega)) (fun r2 h3 q => ?_))
  obtain ⟨rfl, P3, F3⟩ := q
  have L3 := F3.1.lay L2
  refine Tr.ck (Lo_23 L3) (Tr.bd (X3_pop L3 P3 (by omega)) (fun r3 h4 q => ?_))
  obtain ⟨rfl, P4, F4⟩ := q
  have L4 := F4.1.lay L3
  have go : ∀ b, b = (a1 && a0) → Tr (f_X3_endChoice_40 23 (bi b) h4) (fun _ h1 => PaS h1 (l ++ [128]) F ((a1 && a0) :: t) ∧ QFr h h1) := fun b eb => by
    subst eb
    refine Tr.ck (Lo_23 L4) (Tr.bd (X3_push L4 P4 (by omega) _) (fun _ h5 q => ?_))
    exact Tr.ret ⟨q.1, (((F1.tr F2).tr F3).tr F4).tr q.2⟩
  cases a1 with
  | false => exact Tr.pos rfl (go false rfl)
  | true =>
    refine Tr.neg (by decide) ?_
    cases a0 with
    | false => exact Tr.pos rfl (go false rfl)
    | true => exact Tr.neg (by decide) (go true rfl)
theorem X3_takeBracket (L : Lay h) {N n i c : Nat} (V : CV N n (l, F)) (hn : n ≤ 149) (hi : i < 150) (hc : c < 128) (hN : N < 2 ^ 30) (P : PaS h l F (sB l)) (e6 : gI h 23 6 = nI 3) (e9 : gI h 23 9 = -1) : Tr (f_X3_takeBracket 23 (nI c) (nI i) h) (fun _ h1 => SQq h (cBr i c (l, F)) h1) := by
  obtain ⟨v1, v2, v3, v4, v5⟩ := V
  dsimp only at v1 v2 v3 v4 v5
  have hb : hk F ≤ 7 := by
    cases F with
    | nil => exact Nat.zero_le _
    | cons f F => exact v2.2.2.1
  have er : cBr i c (l, F) = Sum.inl i → Tr (some ((), sI h 23 9 (nI i))) (fun _ h1 => SQq h (cBr i c (l, F)) h1) := fun e => Tr.ret (Or.inl ⟨i, e, err9, by omega, fr_fld⟩)
  refine Tr.ck (Lo_23 L) (Tr.be (X3_inner L P (by omega)) ?_)
  have kc : ∀ k, k < 128 → (nI c = nI k ↔ c = k) := fun k hk => nI_eq (by omega) (by omega)
  have kf : ∀ k, k < 128 → (nI (hk F) = nI k ↔ hk F = k) := fun k hk => nI_eq (by omega) (by omega)
  have t92 : ¬ (c = 41 ∧ hk F = 4) → ¬ (c = 63 ∧ hk F = 5) → ¬ (c = 124 ∧ hk F = 6) → Tr (f_X3_takeBracket_92 23 (nI c) (nI i) (nI (hk F)) h) (fun _ h1 => SQq h (cBr i c (l, F)) h1) := fun n1 n2 n3 => by
    by_cases d : c = 93
    · refine Tr.pos (by rw [d]; rfl) ?_
      by_cases d2 : hk F = 7
      · cases F with
        | nil => exact absurd d2 (by decide : ¬ (0 : Nat) = 7)
        | cons f F =>
          have d2 : f.1 = 7 := d2
          have cf : cnt (f :: F) = 2 + cnt F := by show (if f.1 ≤ 2 then 1 else if f.1 ≤ 5 then 0 else if f.1 = 6 then 1 else 2) + cnt F = _; rw [d2]; rfl
          rw [cf] at v1 v4
          have ec : cBr i c (l, f :: F) = Sum.inr ((l ++ [128], F), 3, 0, 0) := by
            show (if c = 41 ∧ f.1 = 4 then _ else if c = 63 ∧ f.1 = 5 then _ else if c = 124 ∧ f.1 = 6 then _ else if c = 93 ∧ f.1 = 7 then _ else _) = _
            rw [if_neg (show ¬ (c = 41 ∧ f.1 = 4) from n1), if_neg (show ¬ (c = 63 ∧ f.1 = 5) from n2), if_neg (show ¬ (c = 124 ∧ f.1 = 6) from n3), if_pos ⟨d, d2⟩]
          obtain ⟨P1, Q1⟩ := P.shut
          refine Tr.pos (by show nI f.1 = 7; rw [d2]; rfl) (Tr.ck (Lo_23 L) ?_)
          have L1 := Q1.1.lay L
          generalize sI h 23 2 (gI h 23 2 - 1) = h1 at P1 Q1 L1
          refine Tr.bd (X3_endChoice L1 (N := 0) (n := 0) (m := cnt F) (by rwa [show 2 + cnt F + 1 = cnt F + 3 by omega] at v1) (by omega) (by omega) P1) (fun _ h2 q => Tr.ret (Or.inr ⟨_, ec, ⟨q.1, ?_, fun z => ?_, fun z => ?_, ?_⟩, Q1.1.tr q.2.1⟩))
          · rw [q.2.2 6 (by decide), Q1.2 6 (by decide)]; exact e6
          · exact absurd z (by decide : ¬ ((3 : Nat) = 1 ∨ (3 : Nat) = 2))
          · exact absurd z (by decide : ¬ (3 : Nat) = 2)
          · rw [q.2.2 9 (by decide), Q1.2 9 (by decide)]; exact e9
      · refine Tr.neg (fun z => d2 ((kf 7 (by decide)).mp z)) (Tr.ck (Lo_23 L) (er ?_))
        cases F with
        | nil => rfl
        | cons f F =>
          show (if c = 41 ∧ f.1 = 4 then _ else if c = 63 ∧ f.1 = 5 then _ else if c = 124 ∧ f.1 = 6 then _ else if c = 93 ∧ f.1 = 7 then _ else _) = _
          rw [if_neg (show ¬ (c = 41 ∧ f.1 = 4) from n1), if_neg (show ¬ (c = 63 ∧ f.1 = 5) from n2), if_neg (show ¬ (c = 124 ∧ f.1 = 6) from n3), if_neg (show ¬ (c = 93 ∧ f.1 = 7) from fun z => d2 z.2)]
    · refine Tr.neg (fun z => d ((kc 93 (by decide)).mp z)) (Tr.ck (Lo_23 L) (er ?_))
      cases F with
      | nil => rfl
      | cons f F =>
        show (if c = 41 ∧ f.1 = 4 then _ else if c = 63 ∧ f.1 = 5 then _ else if c = 124 ∧ f.1 = 6 then _ else if c = 93 ∧ f.1 = 7 then _ else _) = _
        rw [if_neg (show ¬ (c = 41 ∧ f.1 = 4) from n1), if_neg (show ¬ (c = 63 ∧ f.1 = 5) from n2), if_neg (show ¬ (c = 124 ∧ f.1 = 6) from n3), if_neg (show ¬ (c = 93 ∧ f.1 = 7) from fun z => d z.1)]
  have opn : ∀ f F' k, F = f :: F' → cBr i c (l, F) = Sum.inr ((l, (k, i, f.2.2) :: F'), 0, 0, 0) → Tr (ck h 23 3 (bd (f_X3_open 23 (nI k) (nI i) (sI h 23 2 (gI h 23 2 - 1))) fun _ h1 => some ((), h1))) (fun _ h1 => SQq h (cBr i c (l, F)) h1) := fun f F' k eF ec => by
    subst eF
    rw [List.length_cons] at v3
    obtain ⟨P1, Q1⟩ := P.shut
    have L1 := Q1.1.lay L
    generalize sI h 23 2 (gI h 23 2 - 1) = h1 at P1 Q1 L1
    refine Tr.ck (Lo_23 L) (Tr.bd (X3_open L1 P1 (by omega) k i f.2.2) (fun _ h2 q => Tr.ret (Or.inr ⟨_, ec, ⟨q.1, q.2.1, fun z => ?_, fun z => ?_, ?_⟩, Q1.1.tr q.2.2.1⟩)))
    · exact absurd z (by decide : ¬ ((0 : Nat) = 1 ∨ (0 : Nat) = 2))
    · exact absurd z (by decide : ¬ (0 : Nat) = 2)
    · rw [q.2.2.2 9 (by decide), Q1.2 9 (by decide)]; exact e9
  have t60 : ¬ (c = 41 ∧ hk F = 4) → ¬ (c = 63 ∧ hk F = 5) → Tr (f_X3_takeBracket_60 23 (nI c) (nI i) (nI (hk F)) h) (fun _ h1 => SQq h (cBr i c (l, F)) h1) := fun n1 n2 => by
    by_cases d : c = 124
    · refine Tr.pos (by rw [d]; rfl) ?_
      by_cases d2 : hk F = 6
      · refine Tr.pos ((kf 6 (by decide)).mpr d2) ?_
        match hF : F, d2 with
        | f :: F', d2 =>
          refine opn f F' 7 rfl ?_
          show (if c = 41 ∧ f.1 = 4 then _ else if c = 63 ∧ f.1 = 5 then _ else if c = 124 ∧ f.1 = 6 then _ else if c = 93 ∧ f.1 = 7 then _ else _) = _
          rw [if_neg (show ¬ (c = 41 ∧ f.1 = 4) from n1), if_neg (show ¬ (c = 63 ∧ f.1 = 5) from n2), if_pos ⟨d, d2⟩]
      · exact Tr.neg (fun z => d2 ((kf 6 (by decide)).mp z)) (t92 n1 n2 (fun z => d2 z.2))
    · exact Tr.neg (fun z => d ((kc 124 (by decide)).mp z)) (t92 n1 n2 (fun z => d z.1))
  have t29 : ¬ (c = 41 ∧ hk F = 4) → Tr (f_X3_takeBracket_29 23 (nI c) (nI i) (nI (hk F)) h) (fun _ h1 => SQq h (cBr i c (l, F)) h1) := fun n1 => by
    by_cases d : c = 63
    · refine Tr.pos (by rw [d]; rfl) ?_
      by_cases d2 : hk F = 5
      · refine Tr.pos ((kf 5 (by decide)).mpr d2) ?_
        match hF : F, d2 with
        | f :: F', d2 =>
          refine opn f F' 6 rfl ?_
          show (if c = 41 ∧ f.1 = 4 then _ else if c = 63 ∧ f.1 = 5 then _ else if c = 124 ∧ f.1 = 6 then _ else if c = 93 ∧ f.1 = 7 then _ else _) = _
          rw [if_neg (show ¬ (c = 41 ∧ f.1 = 4) from n1), if_pos ⟨d, d2⟩]
      · exact Tr.neg (fun z => d2 ((kf 5 (by decide)).mp z)) (t60 n1 (fun z => d2 z.2))
    · exact Tr.neg (fun z => d ((kc 63 (by decide)).mp z)) (t60 n1 (fun z => d z.1))
  by_cases d : c = 41
  · refine Tr.pos (by rw [d]; rfl) ?_
    by_cases d2 : hk F = 4
    · refine Tr.pos ((kf 4 (by decide)).mpr d2) (Tr.ck (Lo_23 L) (Tr.ret ?_))
      match hF : F, d2 with
      | f :: F', d2 =>
        have ec : cBr i c (l, f :: F') = Sum.inr ((l, F'), 3, 0, 0) := if_pos ⟨d, d2⟩
        obtain ⟨P1, Q1⟩ := P.shut
        refine Or.inr ⟨_, ec, ⟨P1, ?_, fun z => ?_, fun z => ?_, ?_⟩, Q1.1⟩
        · rw [Q1.2 6 (by decide)]; exact e6
        · exact absurd z (by decide : ¬ ((3 : Nat) = 1 ∨ (3 : Nat) = 2))
        · exact absurd z (by decide : ¬ (3 : Nat) = 2)
        · rw [Q1.2 9 (by decide)]; exact e9
    · exact Tr.neg (fun z => d2 ((kf 4 (by decide)).mp z)) (t29 (fun z => d2 z.2))
  · exact Tr.neg (fun z => d ((kc 41 (by decide)).mp z)) (t29 (fun z => d z.1))
end PAR

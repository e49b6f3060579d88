/-! THE CLASS'S PARSER: reading -/
theorem CI.pr {h h1 : Hp} {G : St} (C : CI h G) (F : Fr prR h h1) : CI h1 G := by
  obtain ⟨c1, c2, c3, c4, c5, c6, c7⟩ := C
  exact ⟨F.lay c1, by rw [F.I (fun z => by unfold prR at z; omega)]; exact c2, c3, by rw [F.I (fun z => by unfold prR at z; omega)]; exact c4, by rw [F.I (fun z => by unfold prR at z; omega)]; exact c5, fun s hs => (c6 s hs).fr F (fun a x y z => by unfold slR at x; unfold prR at z; omega), c7.fr F (fun a x z => by unfold hiR at x; unfold prR at z; omega)⟩
section PAR
variable {h : Hp} {G : St} {l : List Nat} {F : FrS}
theorem SQe.tr {h0 h1 : Hp} {e : Nat} (Fx : Fr prR h0 h) (q : SQe h e h1) : SQe h0 e h1 := ⟨q.1, q.2.1, Fx.tr q.2.2⟩
theorem SQq.tr {h0 h1 : Hp} {R : Nat ⊕ PQy} (Fx : Fr prR h0 h) (q : SQq h R h1) : SQq h0 R h1 := by
  rcases q with ⟨e, a, b⟩ | ⟨q, a, b, c⟩
  · exact Or.inl ⟨e, a, b.tr Fx⟩
  · exact Or.inr ⟨q, a, b, Fx.tr c⟩
/-- a leaf's end -/
theorem X3_end21 (L : Lay h) {m : List Nat} {b : Bool} (hB : (sB l).length < 150) (P : PaS h m F (sB l)) (es : sB m = b :: sB l) (e9 : gI h 23 9 = -1) : Tr (f_X3_endLeaf_21 23 23 (bi b) h) (fun _ h1 => PaI h1 ((m, F), 3, 0, 0) ∧ Fr prR h h1) := by
  refine Tr.ck (Lo_23 L) (Tr.bd (X3_push L P hB b) (fun _ h1 q => ?_))
  obtain ⟨P1, Q1⟩ := q
  rw [← es] at P1
  refine Tr.ck (Lo_23 (Q1.1.lay L)) (Tr.ret ⟨⟨P1.fld (by decide), by rw [gI_sI, upd_eq]; rfl, fun z => ?_, fun z => ?_, ?_⟩, Q1.1.tr fr_fld⟩)
  · exact absurd z (by decide : ¬ ((3 : Nat) = 1 ∨ (3 : Nat) = 2))
  · exact absurd z (by decide : ¬ (3 : Nat) = 2)
  · rw [gI_sI, upd_ne (by decide), Q1.2 9 (by decide)]; exact e9
theorem X3_endLeaf (L : Lay h) {kd f v : Nat} (hkd : kd < 4) (hf : f < 4) (hv : v < 4) (hl : l.length < 2 ^ 30) (hB : (sB l).length < 150) (P : PaS h l F (sB l)) (e9 : gI h 23 9 = -1) : Tr (f_X3_endLeaf 23 (nI kd) (nI f) (nI v) h) (fun _ h1 => PaI h1 ((l ++ [16 * kd + 4 * f + v], F), 3, 0, 0) ∧ Fr prR h h1) := by
  have hc : 16 * kd + 4 * f + v < 64 := by omega
  have ar0 : ar (16 * kd + 4 * f + v) = 0 := by unfold ar; rw [if_pos hc]
  refine Tr.ck (Lo_23 L) (Tr.gp (Lp_23_5 L) (Tr.ck (Lpo L PA27) (Tr.bd (X3_add L P hl (kd := kd) (f := f) (v := v) (by omega) hf hv) (fun _ h1 q => ?_))))
  obtain ⟨P1, Q1⟩ := q
  have L1 := Q1.1.lay L
  have g9 : gI h1 23 9 = -1 := by rw [Q1.2 9 (by decide)]; exact e9
  have es : ∀ b, opB (16 * kd + 4 * f + v) ((sB l).getD 0 false) ((sB l).getD 1 false) ((sB l).getD 2 false) = b → sB (l ++ [16 * kd + 4 * f + v]) = b :: sB l := fun b e => by
    rw [sB_snoc, ar0, e]; rfl
  by_cases c : kd = 3
  · refine Tr.pos (by rw [c]; rfl) (Tr.imp (X3_end21 L1 (b := false) hB P1 (es false ?_) g9) (fun _ h2 q => ⟨q.1, Q1.1.tr q.2⟩))
    unfold opB
    rw [if_neg (by omega), if_pos (by omega)]
  · refine Tr.neg (nI_ne (b := 3) (by omega) (by decide) c) (Tr.imp (X3_end21 L1 (b := true) hB P1 (es true ?_) g9) (fun _ h2 q => ⟨q.1, Q1.1.tr q.2⟩))
    unfold opB
    rw [if_pos (by omega)]
theorem X3_takeFactor (C : CI h G) {i c : Nat} {a b : Nat} (hi : i < 150) (hc : c < 128) (V : PV i ((l, F), 0, a, b)) (P : PaI h ((l, F), 0, a, b)) : Tr (f_X3_takeFactor 23 (nI c) (nI i) 3 h) (fun _ h1 => SQq h (stA G.2.2.1 i c (l, F)) h1) := by
  have L := C.1
  obtain ⟨P1, e6, _, _, e9⟩ := P
  dsimp only at P1
  rcases V with ⟨h0, _⟩ | ⟨_, v1, v2, v3, v4, v5, _⟩
  · exact absurd h0 (by decide : ¬ (0 : Nat) = 3)
  dsimp only at v1 v2 v3 v4 v5
  have hB := sB_len v1
  have kc : ∀ k, k < 128 → (nI c = nI k ↔ c = k) := fun k hk => nI_eq (by omega) (by omega)
  have opn : ∀ k, stA G.2.2.1 i c (l, F) = Sum.inr ((l, (k, i, i) :: F), 0, 0, 0) → Tr (ck h 23 3 (bd (f_X3_open 23 (nI k) (nI i) h) fun _ h3 => some ((), h3))) (fun _ h1 => SQq h (stA G.2.2.1 i c (l, F)) h1) := fun k ec =>
    Tr.ck (Lo_23 L) (Tr.bd (X3_open L P1 (by omega) k i i) (fun _ h2 q => Tr.ret (Or.inr ⟨_, ec, ⟨q.1, q.2.1, fun z => absurd z (by decide : ¬ ((0 : Nat) = 1 ∨ (0 : Nat) = 2)), fun z => absurd z (by decide : ¬ (0 : Nat) = 2), by rw [q.2.2.2 9 (by decide)]; exact e9⟩, q.2.2.1⟩)))
  by_cases c1 : c = 33
  · exact Tr.pos (by rw [c1]; rfl) (opn 3 (if_pos c1))
  refine Tr.neg (fun z => c1 ((kc 33 (by decide)).mp z)) ?_
  by_cases c2 : c = 40
  · exact Tr.pos (by rw [c2]; rfl) (opn 4 (by unfold stA; rw [if_neg c1, if_pos c2]))
  refine Tr.neg (fun z => c2 ((kc 40 (by decide)).mp z)) ?_
  by_cases c3 : c = 91
  · exact Tr.pos (by rw [c3]; rfl) (opn 5 (by unfold stA; rw [if_neg c1, if_neg c2, if_pos c3]))
  refine Tr.neg (fun z => c3 ((kc 91 (by decide)).mp z)) ?_
  have leaf : ∀ kd, c = 48 + kd → kd < 2 → Tr (f_X3_takeFactor_69 23 (nI kd) h) (fun _ h1 => SQq h (stA G.2.2.1 i c (l, F)) h1) := fun kd e hk => by
    have ec : stA G.2.2.1 i c (l, F) = Sum.inr ((l ++ [16 * kd + 4 * 0 + 0], F), 3, 0, 0) := by
      unfold stA
      rw [if_neg c1, if_neg c2, if_neg c3, if_pos (by omega), show 16 * (c - 48) = 16 * kd + 4 * 0 + 0 by omega]
    refine Tr.ck (Lo_23 L) (Tr.bd (X3_endLeaf L (kd := kd) (f := 0) (v := 0) (by omega) (by decide) (by decide) (by omega) (by omega) P1 e9) (fun _ h2 q => Tr.ret (Or.inr ⟨_, ec, q.1, q.2⟩)))
  by_cases c4 : c = 48
  · exact Tr.pos (by rw [c4]; rfl) (Tr.pos (by rw [c4]; rfl) (leaf 0 (by omega) (by decide)))
  refine Tr.neg (fun z => c4 ((kc 48 (by decide)).mp z)) ?_
  by_cases c5 : c = 49
  · exact Tr.pos (by rw [c5]; rfl) (Tr.neg (by rw [c5]; decide) (leaf 1 (by omega) (by decide)))
  refine Tr.neg (fun z => c5 ((kc 49 (by decide)).mp z)) ?_
  have n45 : ¬ (c = 48 ∨ c = 49) := by omega
  have err : stA G.2.2.1 i c (l, F) = Sum.inl i → Tr (ck h 23 3 (some ((), sI h 23 9 (nI i)))) (fun _ h1 => SQq h (stA G.2.2.1 i c (l, F)) h1) := fun e => Tr.ck (Lo_23 L) (Tr.ret (Or.inl ⟨i, e, err9, by omega, fr_fld⟩))
  have t105 : ¬ (120 ≤ c ∧ c ≤ 122) → Tr (f_X3_takeFactor_105 23 (nI c) (nI i) 3 h) (fun _ h1 => SQq h (stA G.2.2.1 i c (l, F)) h1) := fun n6 => by
    by_cases c7 : c < 112
    · exact Tr.pos (nI_lt (b := 112) c7 (by decide)) (err (by unfold stA; rw [if_neg c1, if_neg c2, if_neg c3, if_neg n45, if_neg n6, if_neg (by omega)]))
    refine Tr.neg (nI_nlt (b := 112) (by omega) (by omega)) ?_
    by_cases c8 : 115 < c
    · exact Tr.pos (nI_lt (a := 115) c8 (by omega)) (err (by unfold stA; rw [if_neg c1, if_neg c2, if_neg c3, if_neg n45, if_neg n6, if_neg (by omega)]))
    refine Tr.neg (nI_nlt (a := 115) (by omega) (by decide)) (Tr.ck (Lk_3 L) ?_)
    obtain ⟨s, hs, es⟩ : ∃ s, s < 4 ∧ c = 112 + s := ⟨c - 112, by omega, by omega⟩
    subst es
    have e112 : nI (112 + s) - (112 : Int32) = nI s := by
      rw [show (112 : Int32) = nI 112 from rfl, pk_sub (by omega), Nat.add_sub_cancel_left]
    rw [e112, Ln_3 L]
    have ec : stA G.2.2.1 i (112 + s) (l, F) = Sum.inr ((l ++ G.2.2.1 s, F), 3, 0, 0) := by
      unfold stA
      rw [if_neg c1, if_neg c2, if_neg c3, if_neg n45, if_neg n6, if_pos (by omega), Nat.add_sub_cancel_left]
    refine Tr.neg (show ¬ (Int32.ofNat 4 ≤ nI s) from nI_ge (b := 4) hs (by decide)) (Tr.ca (La_3 L hs) ?_)
    rw [nI_clamp (by omega)]
    have W := (C.slot hs).2.1
    refine Tr.gp (Lp_3 L hs) (Tr.ck (Lso_35 L hs) (Tr.be (X7_policy L hs) (Tr.ck (Lo_23 L) (Tr.gp (Lp_23_5 L) (Tr.ck (Lpo L PA27) (Tr.bd (X4_addAll L PA27 (PA_s hs) (by omega) P1.1 (C.slot hs).1 (by omega) W.2.2.1 W.1) (fun _ h1 q => ?_)))))))
    obtain ⟨P2, Q2⟩ := P1.pol q.1 q.2
    have C2 := C.pr Q2.1
    have L2 := C2.1
    refine Tr.ck (Lso_36 L2 hs) (Tr.be (X4_givesPredicate L2 (PA_s hs) (C2.slot hs).1) (Tr.ck (Lo_23 L2) (Tr.bd (X3_push L2 P2 (by omega) _) (fun _ h3 q3 => ?_))))
    obtain ⟨P3, Q3⟩ := q3
    have esb : sB (l ++ G.2.2.1 s) = prd (G.2.2.1 s) :: sB l := by rw [sB_app W.1, sB_one W.pre]; rfl
    rw [← esb] at P3
    refine Tr.ck (Lo_23 (Q3.1.lay L2)) (Tr.ret (Or.inr ⟨_, ec, ⟨P3.fld (by decide), by rw [gI_sI, upd_eq]; rfl, fun z => ?_, fun z => ?_, ?_⟩, (Q2.1.tr Q3.1).tr fr_fld⟩))
    · exact absurd z (by decide : ¬ ((3 : Nat) = 1 ∨ (3 : Nat) = 2))
    · exact absurd z (by decide : ¬ (3 : Nat) = 2)
    · rw [gI_sI, upd_ne (by decide), Q3.2 9 (by decide), Q2.2 9 (by decide)]; exact e9
  by_cases c6 : c < 120
  · exact Tr.pos (nI_lt (b := 120) c6 (by decide)) (t105 (by omega))
  refine Tr.neg (nI_nlt (b := 120) (by omega) (by omega)) ?_
  by_cases c7 : 122 < c
  · exact Tr.pos (nI_lt (a := 122) c7 (by omega)) (t105 (by omega))
  refine Tr.neg (nI_nlt (a := 122) (by omega) (by decide)) (Tr.ck (Lo_23 L) ?_)
  have e120 : nI c - (120 : Int32) = nI (c - 120) := pk_sub (b := 120) (by omega)
  rw [e120]
  have ec : stA G.2.2.1 i c (l, F) = Sum.inr ((l, F), 1, c - 120, 0) := by
    unfold stA
    rw [if_neg c1, if_neg c2, if_neg c3, if_neg n45, if_pos (by omega)]
  refine Tr.ret (Or.inr ⟨_, ec, ⟨(P1.fld (by decide)).fld (by decide), by rw [gI_sI, upd_eq]; rfl, fun _ => ?_, fun z => ?_, ?_⟩, fr_fld.tr fr_fld⟩)
  · rw [gI_sI, upd_ne (by decide), gI_sI, upd_eq]
  · exact absurd z (by decide : ¬ (1 : Nat) = 2)
  · rw [gI_sI, upd_ne (by decide), gI_sI, upd_ne (by decide)]; exact e9
theorem X3_takeSign (L : Lay h) {i c a b : Nat} (hi : i < 150) (hc : c < 128) (P : PaI h ((l, F), 1, a, b)) : Tr (f_X3_takeSign 23 (nI c) (nI i) h) (fun _ h1 => SQq h (stS i c ((l, F), 1, a, b)) h1) := by
  obtain ⟨P1, e6, e7, _, e9⟩ := P
  dsimp only at P1
  have e7 := e7 (Or.inl rfl)
  have kc : ∀ k, k < 128 → (nI c = nI k ↔ c = k) := fun k hk => nI_eq (by omega) (by omega)
  have go : ∀ g, stS i c ((l, F), 1, a, b) = Sum.inr ((l, F), 2, a, g) → Tr (some ((), sI (sI h 23 8 (nI g)) 23 6 2)) (fun _ h1 => SQq h (stS i c ((l, F), 1, a, b)) h1) := fun g ec =>
    Tr.ret (Or.inr ⟨_, ec, ⟨(P1.fld (by decide)).fld (by decide), by rw [gI_sI, upd_eq]; rfl, fun _ => by rw [gI_sI, upd_ne (by decide), gI_sI, upd_ne (by decide)]; exact e7, fun _ => by rw [gI_sI, upd_ne (by decide), gI_sI, upd_eq], by rw [gI_sI, upd_ne (by decide), gI_sI, upd_ne (by decide)]; exact e9⟩, fr_fld.tr fr_fld⟩)
  by_cases c1 : c = 61
  · exact Tr.pos (by rw [c1]; rfl) (Tr.pos (by rw [c1]; rfl) (Tr.ck (Lo_23 L) (go 2 (if_pos c1))))
  refine Tr.neg (fun z => c1 ((kc 61 (by decide)).mp z)) ?_
  by_cases c2 : c = 58
  · exact Tr.pos (by rw [c2]; rfl) (Tr.neg (fun z => c1 ((kc 61 (by decide)).mp z)) (Tr.ck (Lo_23 L) (go 3 (by unfold stS; rw [if_neg c1, if_pos c2]))))
  exact Tr.neg (fun z => c2 ((kc 58 (by decide)).mp z)) (Tr.ck (Lo_23 L) (Tr.ret (Or.inl ⟨i, by unfold stS; rw [if_neg c1, if_neg c2], err9, by omega, fr_fld⟩)))
theorem X3_takeDigit (L : Lay h) {i c a b : Nat} (hi : i < 150) (hc : c < 128) (V : PV i ((l, F), 2, a, b)) (P : PaI h ((l, F), 2, a, b)) : Tr (f_X3_takeDigit 23 (nI c) (nI i) h) (fun _ h1 => SQq h (stD i c ((l, F), 2, a, b)) h1) := by
  obtain ⟨P1, e6, e7, e8, e9⟩ := P
  dsimp only at P1
  have e7 := e7 (Or.inr rfl)
  have e8 := e8 rfl
  rcases V with ⟨h0, _⟩ | ⟨_, v1, v2, v3, v4, v5, _, v7, v8⟩
  · exact absurd h0 (by decide : ¬ (2 : Nat) = 3)
  dsimp only at v1 v2 v3 v4 v5 v7 v8 e7 e8
  have a3 := v7 (by decide)
  have b2 := v8 rfl
  have hB := sB_len v1
  have err : stD i c ((l, F), 2, a, b) = Sum.inl i → Tr (ck h 23 3 (some ((), sI h 23 9 (nI i)))) (fun _ h1 => SQq h (stD i c ((l, F), 2, a, b)) h1) := fun e => Tr.ck (Lo_23 L) (Tr.ret (Or.inl ⟨i, e, err9, by omega, fr_fld⟩))
  by_cases c1 : c < 48
  · exact Tr.pos (nI_lt (b := 48) c1 (by decide)) (err (if_neg (by omega)))
  refine Tr.neg (nI_nlt (b := 48) (by omega) (by omega)) ?_
  by_cases c2 : 52 ≤ c
  · exact Tr.pos (nI_le (a := 52) c2 (by omega)) (err (if_neg (by omega)))
  refine Tr.neg (nI_ge (b := 52) (by omega) (by decide)) (Tr.ck (Lo_23 L) ?_)
  have e48 : nI c - (48 : Int32) = nI (c - 48) := pk_sub (b := 48) (by omega)
  rw [e48, e7, e8]
  have ec : stD i c ((l, F), 2, a, b) = Sum.inr ((l ++ [16 * b + 4 * a + (c - 48)], F), 3, 0, 0) := if_pos (by omega)
  exact Tr.bd (X3_endLeaf L (kd := b) (f := a) (v := c - 48) (by omega) (by omega) (by omega) (by omega) (by omega) P1 e9) (fun _ h2 q => Tr.ret (Or.inr ⟨_, ec, q.1, q.2⟩))
theorem X3_tb80 (L : Lay h) {i c : Nat} {h0 : Hp} (F0 : Fr prR h0 h) (V : CV (31 * i + 30) i (l, F)) (hi : i < 150) (hc : c < 128) (P : PaS h l F (sB l)) (e6 : gI h 23 6 = nI 3) (e9 : gI h 23 9 = -1) {R : Nat ⊕ PQy} (hR : R = match cCond (cPair 1 64 (l, F)) with
    | Sum.inl e => Sum.inl e
    | Sum.inr s4 => cBr i c s4) : Tr (f_X3_takeBehindAtom_80 23 (nI c) (nI i) h) (fun _ h1 => SQq h0 R h1) := by
  refine Tr.ck (Lo_23 L) (Tr.bd (X3_endUnion L V (by omega) (by omega) P e9) (fun _ h1 q => ?_))
  rcases q with ⟨e, ee, E, _⟩ | ⟨s, es, P1, Q1⟩
  · have L1 := E.2.2.lay L
    rw [ee] at hR
    refine Tr.ck (Lo_23 L1) ?_
    rw [E.1]
    exact Tr.neg (no_m1 E.2.1) (Tr.ret (Or.inl ⟨e, hR, E.tr F0⟩))
  · have L1 := Q1.1.lay L
    rw [es] at hR
    have V1 := V.pair (k := 1) (c := 64) (Or.inl rfl) rfl rfl
    rw [← cCond_is es] at V1
    obtain ⟨l1, F1⟩ := s
    refine Tr.ck (Lo_23 L1) (Tr.pos (by rw [Q1.2 9 (by decide)]; exact e9) (Tr.bd (X3_takeBracket L1 V1 (by omega) hi hc (by omega) P1 (by rw [Q1.2 6 (by decide)]; exact e6) (by rw [Q1.2 9 (by decide)]; exact e9)) (fun _ h2 q => Tr.ret ?_)))
    rw [hR]
    exact SQq.tr (F0.tr Q1.1) q
theorem X3_tb80E (L : Lay h) {e : Nat} (he : e < 2 ^ 31) (e9 : gI h 23 9 = nI e) (x y : Int32) : f_X3_takeBehindAtom_80 23 x y h = some ((), h) := by
  apply Tr.of_eq
  refine Tr.ck (Lo_23 L) (Tr.be (X3_endUnionE L he e9) (Tr.ck (Lo_23 L) ?_))
  rw [e9]
  exact Tr.neg (no_m1 he) (Tr.ret ⟨rfl, rfl⟩)
theorem X3_tb53E (L : Lay h) {e : Nat} (he : e < 2 ^ 31) (e9 : gI h 23 9 = nI e) (x y : Int32) : f_X3_takeBehindAtom_53 23 x y h = some ((), h) := by
  apply Tr.of_eq
  have t80 := X3_tb80E L he e9 x y
  refine Tr.ck (Lo_23 L) (Tr.be (X3_endPairE L he e9 1 4) (Tr.cs (fun _ => Tr.ck (Lo_23 L) ?_) (fun _ => Tr.eq t80 ⟨rfl, rfl⟩)))
  rw [e9]
  exact Tr.neg (no_m1 he) (Tr.eq t80 ⟨rfl, rfl⟩)
theorem X3_takeBehind (L : Lay h) {i c : Nat} (V : CV (31 * i + 30) i (l, F)) (hi : i < 150) (hc : c < 128) (P : PaS h l F (sB l)) (e6 : gI h 23 6 = nI 3) (e9 : gI h 23 9 = -1) : Tr (f_X3_takeBehindAtom 23 (nI c) (nI i) h) (fun _ h1 => SQq h (stE i c (l, F)) h1) := by
  have kc : ∀ k, k < 128 → (nI c = nI k ↔ c = k) := fun k hk => nI_eq (by omega) (by omega)
  obtain ⟨v1, v2, v3, v4, v5⟩ := id V
  dsimp only at v1 v2 v3 v4 v5
  have hBl := sB_len v1
  by_cases c1 : c = 42
  · have ec : stE i c (l, F) = Sum.inr ((l ++ [96], F), 3, 0, 0) := if_pos c1
    obtain ⟨a0, t, est⟩ := st_one (st := sB l) (by omega)
    have esn : sB (l ++ [96]) = false :: t := by rw [sB_snoc, est]; rfl
    rw [est] at P hBl
    rw [List.length_cons] at hBl
    refine Tr.pos (by rw [c1]; rfl) (Tr.ck (Lo_23 L) (Tr.gp (Lp_23_5 L) (Tr.ck (Lpo L PA27) (Tr.bd (X3_add L P (by omega) (kd := 6) (f := 0) (v := 0) (by decide) (by decide) (by decide)) (fun _ h1 q => ?_)))))
    obtain ⟨P1, Q1⟩ := q
    have L1 := Q1.1.lay L
    refine Tr.ck (Lo_23 L1) (Tr.bd (X3_pop L1 P1 (by omega)) (fun r h2 q => ?_))
    obtain ⟨_, P2, Q2⟩ := q
    have L2 := Q2.1.lay L1
    refine Tr.ck (Lo_23 L2) (Tr.bd (X3_push L2 P2 (by omega) false) (fun _ h3 q => ?_))
    obtain ⟨P3, Q3⟩ := q
    rw [← esn] at P3
    have QQ := (Q1.tr Q2).tr Q3
    refine Tr.ret (Or.inr ⟨_, ec, ⟨P3, by rw [QQ.2 6 (by decide)]; exact e6, fun z => ?_, fun z => ?_, by rw [QQ.2 9 (by decide)]; exact e9⟩, QQ.1⟩)
    · exact absurd z (by decide : ¬ ((3 : Nat) = 1 ∨ (3 : Nat) = 2))
    · exact absurd z (by decide : ¬ (3 : Nat) = 2)
  have eE : stE i c (l, F) = stB i c (l, F) := if_neg c1
  rw [eE]
  refine Tr.neg (fun z => c1 ((kc 42 (by decide)).mp z)) (Tr.ck (Lo_23 L) (Tr.bd (X3_endFactor L V (by omega) (by omega) P e9) (fun _ h1 q => ?_)))
  unfold cFac at q
  unfold stB
  cases hn : cNot l F with
  | inl x =>
    rw [hn] at q
    rcases q with ⟨e, ee, E, _⟩ | ⟨s, es, _⟩
    · cases ee
      have L1 := E.2.2.lay L
      have fin : Tr (some ((), h1)) (fun _ h2 => SQq h (Sum.inl x) h2) := Tr.ret (Or.inl ⟨x, rfl, E⟩)
      have t53 : Tr (f_X3_takeBehindAtom_53 23 (nI c) (nI i) h1) (fun _ h2 => SQq h (Sum.inl x) h2) := Tr.eq (X3_tb53E L1 E.2.1 E.1 _ _) (Or.inl ⟨x, rfl, E⟩)
      refine Tr.cs (fun _ => Tr.ck (Lo_23 L1) ?_) (fun _ => t53)
      rw [E.1]
      exact Tr.neg (no_m1 E.2.1) t53
    · cases es
  | inr s1 =>
    rw [hn] at q
    rcases q with ⟨e, ee, E, _⟩ | ⟨s, es, P1, Q1⟩
    · cases ee
    · cases es
      obtain ⟨w1, w2⟩ := CV.nots V hn
      have W1 := w1.pair (k := 2) (c := 80) (Or.inr rfl) rfl rfl
      have L1 := Q1.1.lay L
      have g9 : gI h1 23 9 = -1 := by rw [Q1.2 9 (by decide)]; exact e9
      have g6 : gI h1 23 6 = nI 3 := by rw [Q1.2 6 (by decide)]; exact e6
      show Tr _ (fun _ h1 => SQq h (stC i c s1) h1)
      unfold stC
      generalize cPair 2 80 s1 = t at P1 W1
      obtain ⟨l1, F1⟩ := t
      dsimp only at P1
      by_cases c2 : c = 46
      · rw [if_pos c2]
        have hF1 := W1.2.2.1
        dsimp only at hF1
        refine Tr.pos (by rw [c2]; rfl) (Tr.ck (Lo_23 L1) (Tr.pos g9 (Tr.bd (X3_open L1 P1 (by omega) 2 i i) (fun _ h2 q => Tr.ret (Or.inr ⟨_, rfl, ⟨q.1, q.2.1, fun z => absurd z (by decide : ¬ ((0 : Nat) = 1 ∨ (0 : Nat) = 2)), fun z => absurd z (by decide : ¬ (0 : Nat) = 2), by rw [q.2.2.2 9 (by decide)]; exact g9⟩, Q1.1.tr q.2.2.1⟩)))))
      rw [if_neg c2]
      refine Tr.neg (fun z => c2 ((kc 46 (by decide)).mp z)) (Tr.ck (Lo_23 L1) (Tr.bd (X3_uni L1 W1 (by omega) (by omega) P1 g9) (fun _ h2 q => ?_)))
      obtain ⟨P2, Q2⟩ := q
      have W2 := W1.pair (k := 1) (c := 64) (Or.inl rfl) rfl rfl
      have L2 := Q2.1.lay L1
      have i9 : gI h2 23 9 = -1 := by rw [Q2.2 9 (by decide)]; exact g9
      have i6 : gI h2 23 6 = nI 3 := by rw [Q2.2 6 (by decide)]; exact g6
      generalize cPair 1 64 (l1, F1) = u at P2 W2
      obtain ⟨l2, F2⟩ := u
      dsimp only at P2
      by_cases c3 : c = 43
      · rw [if_pos c3]
        have hF2 := W2.2.2.1
        dsimp only at hF2
        refine Tr.pos (by rw [c3]; rfl) (Tr.ck (Lo_23 L2) (Tr.pos i9 (Tr.bd (X3_open L2 P2 (by omega) 1 i i) (fun _ h3 q => Tr.ret (Or.inr ⟨_, rfl, ⟨q.1, q.2.1, fun z => absurd z (by decide : ¬ ((0 : Nat) = 1 ∨ (0 : Nat) = 2)), fun z => absurd z (by decide : ¬ (0 : Nat) = 2), by rw [q.2.2.2 9 (by decide)]; exact i9⟩, (Q1.1.tr Q2.1).tr q.2.2.1⟩)))))
      rw [if_neg c3]
      exact Tr.neg (fun z => c3 ((kc 43 (by decide)).mp z)) (X3_tb80 L2 (Q1.1.tr Q2.1) W2 hi hc P2 i6 i9 rfl)
/-- the text's end -/
def RdQ (h0 : Hp) (R : Nat ⊕ List Nat) : Int32 → Hp → Prop := fun r h1 => (∃ e, R = Sum.inl e ∧ r = nI e ∧ e < 2 ^ 31 ∧ Fr prR h0 h1) ∨ ∃ l, R = Sum.inr l ∧ r = -1 ∧ PolI h1 27 l (prd l) ∧ Pre l 1 ∧ l.length < 2 ^ 30 ∧ Fr prR h0 h1
theorem X3_fin42 (L : Lay h) {B : List Bool} (P : PaS h l F B) (hB : B.length ≤ 150) : Tr (f_X3_finish_42 23 h) (fun _ h1 => PolI h1 27 l (B.getD 0 false) ∧ Fr prR h h1 ∧ gI h1 23 9 = gI h 23 9) := by
  refine Tr.ck (Lo_23 L) (Tr.gp (Lp_23_5 L) (Tr.be (X3_top L P hB) (Tr.ck (Lpo L PA27) (Tr.bd (X4_mark L PA27 P.1 _) (fun _ h1 q => Tr.ret ⟨q.1, q.2.wk (fun a x => by unfold pR at x; unfold prR; omega), ?_⟩)))))
  rw [q.2.I (fun z => by unfold pR at z; omega)]
theorem X3_fin42E (L : Lay h) {e : Nat} (P : ∃ l F B, PaS h l F B ∧ B.length ≤ 150) (e9 : gI h 23 9 = nI e) : Tr (f_X3_finish_42 23 h) (fun _ h1 => gI h1 23 9 = nI e ∧ Fr prR h h1) := by
  obtain ⟨l, F, B, P, hB⟩ := P
  exact Tr.imp (X3_fin42 L P hB) (fun _ h1 q => ⟨by rw [q.2.2]; exact e9, q.2.1⟩)
end PAR

/-! THE CLASS'S PARSER -/
def prR : Nat → Prop := fun a => 23 ≤ a ∧ a ≤ 29
theorem PA27 : PA 27 := (by decide : (27 : Nat) ∈ PAl)
/-- the nodes built, what is open, what waits -/
def PaS (h : Hp) (l : List Nat) (F : FrS) (B : List Bool) : Prop := PolI h 27 l false ∧ gI h 23 2 = nI F.length ∧ Stk (fun f : Nat × Nat × Nat => nI f.1) (gI h 24) F ∧ Stk (fun f : Nat × Nat × Nat => nI f.2.1) (gI h 25) F ∧ gI h 23 4 = nI B.length ∧ Stk bi (gI h 26) B
/-- a step of the parser: the fields 6 to 9 stand -/
def QFr (h h1 : Hp) : Prop := Fr prR h h1 ∧ ∀ i, 6 ≤ i → gI h1 23 i = gI h 23 i
theorem QFr.rf {h : Hp} : QFr h h := ⟨Fr.rf, fun _ _ => rfl⟩
theorem QFr.tr {h h1 h2 : Hp} (a : QFr h h1) (b : QFr h1 h2) : QFr h h2 := ⟨a.1.tr b.1, fun i x => by rw [b.2 i x, a.2 i x]⟩
section PAR
variable {h : Hp} {l : List Nat} {F : FrS} {B : List Bool}
theorem PaS.cell {h1 : Hp} (P : PaS h l F B) (e1 : ∀ a, a ≠ 23 → gI h1 a = gI h a) (e2 : gI h1 23 2 = gI h 23 2) (e4 : gI h1 23 4 = gI h 23 4) : PaS h1 l F B := by
  unfold PaS PolI
  rw [e1 27 (by decide), e1 28 (by decide), e1 29 (by decide), e1 24 (by decide), e1 25 (by decide), e1 26 (by decide), e2, e4]
  exact P
theorem PaS.fld (P : PaS h l F B) {i : Nat} {x : Int32} (hi : 6 ≤ i) : PaS (sI h 23 i x) l F B := P.cell (fun a ha => gI_sI_ne ha) (by rw [gI_sI, upd_ne (by omega)]) (by rw [gI_sI, upd_ne (by omega)])
theorem fr_fld {i : Nat} {x : Int32} : Fr prR h (sI h 23 i x) := Fr.sI ⟨by decide, by decide⟩
theorem X3_push (L : Lay h) (P : PaS h l F B) (hB : B.length < 150) (b : Bool) : Tr (f_X3_pushOperand 23 (bi b) h) (fun _ h1 => PaS h1 l F (b :: B) ∧ QFr h h1) := by
  obtain ⟨p1, p2, p3, p4, p5, p6⟩ := P
  refine Tr.ck (Lo_23 L) ?_
  rw [p5]
  refine Tr.neg (nI_pos (by omega)) (Tr.neg (nI_ge (b := 150) hB (by decide)) (Tr.gp (Lp_23_3 L) (Tr.bz (bi_01 b) (Tr.ca (La_26 L hB) ?_))))
  rw [nI_clamp (by omega), gI_sI_ne (by decide), p5, nI_1]
  refine Tr.nm (fun h3 e3 => Tr.ret ?_)
  have g : ∀ a, a ≠ 23 → a ≠ 26 → gI h3 a = gI h a := fun a x y => by rw [e3, gI_sI_ne x, gI_sI_ne y]
  have g23 : ∀ i, i ≠ 4 → gI h3 23 i = gI h 23 i := fun i x => by rw [e3, gI_sI, upd_ne x, gI_sI_ne (by decide)]
  refine ⟨⟨?_, by rw [g23 2 (by decide)]; exact p2, by rw [g 24 (by decide) (by decide)]; exact p3, by rw [g 25 (by decide) (by decide)]; exact p4, by rw [e3, gI_sI, upd_eq, List.length_cons], ?_⟩, ?_, fun i x => g23 i (by omega)⟩
  · unfold PolI; rw [g 27 (by decide) (by decide), g 28 (by decide) (by decide), g 29 (by decide) (by decide)]; exact p1
  · rw [e3, gI_sI_ne (by decide), gI_sI]; exact p6.push b
  · rw [e3]; exact (Fr.sI (show prR 26 from ⟨by decide, by decide⟩)).tr (Fr.sI ⟨by decide, by decide⟩)
theorem X3_top (L : Lay h) (P : PaS h l F B) (hB : B.length ≤ 150) : f_X3_topIsPredicate 23 h = some (bi (B.getD 0 false), h) := by
  obtain ⟨p1, p2, p3, p4, p5, p6⟩ := P
  apply Tr.of_eq
  refine Tr.ck (Lo_23 L) ?_
  rw [p5]
  cases B with
  | nil => exact Tr.pos (by decide) (Tr.ret ⟨rfl, rfl⟩)
  | cons b B =>
    rw [List.length_cons] at hB ⊢
    refine Tr.neg (nI_nle (by omega) (by omega)) (Tr.neg (nI_nlt (a := 150) (b := B.length + 1) hB (by decide)) (Tr.gp (Lp_23_3 L) ?_))
    rw [nI_pred]
    refine Tr.ca (La_26 L (by omega)) ?_
    rw [nI_clamp (by omega), p6.1]
    cases b
    · exact Tr.pos rfl (Tr.ret ⟨rfl, rfl⟩)
    · exact Tr.neg (by decide) (Tr.ret ⟨rfl, rfl⟩)
theorem X3_pop {b : Bool} (L : Lay h) (P : PaS h l F (b :: B)) (hB : B.length < 150) : Tr (f_X3_popOperand 23 h) (fun r h1 => r = bi b ∧ PaS h1 l F B ∧ QFr h h1) := by
  have t := X3_top L P (by rw [List.length_cons]; omega)
  obtain ⟨p1, p2, p3, p4, p5, p6⟩ := P
  rw [List.length_cons] at p5
  refine Tr.ck (Lo_23 L) (Tr.be t (Tr.ck (Lo_23 L) ?_))
  rw [p5, nI_pred]
  refine Tr.neg (nI_nle (by omega) (by omega)) (Tr.bz (bi_01 _) (Tr.ret ⟨rfl, ⟨?_, ?_, ?_, ?_, ?_, ?_⟩, fr_fld, fun i x => by rw [gI_sI, upd_ne (by omega)]⟩))
  · unfold PolI; rw [gI_sI_ne (by decide), gI_sI_ne (by decide), gI_sI_ne (by decide)]; exact p1
  · rw [gI_sI, upd_ne (by decide)]; exact p2
  · rw [gI_sI_ne (by decide)]; exact p3
  · rw [gI_sI_ne (by decide)]; exact p4
  · rw [gI_sI, upd_eq]
  · rw [gI_sI_ne (by decide)]; exact p6.2
theorem X3_inner (L : Lay h) (P : PaS h l F B) (hF : F.length ≤ 150) : f_X3_innermost 23 h = some (nI (hk F), h) := by
  obtain ⟨p1, p2, p3, p4, p5, p6⟩ := P
  apply Tr.of_eq
  refine Tr.ck (Lo_23 L) ?_
  rw [p2]
  cases F with
  | nil => exact Tr.pos (by decide) (Tr.ret ⟨rfl, rfl⟩)
  | cons f F =>
    rw [List.length_cons] at hF ⊢
    refine Tr.neg (nI_nle (by omega) (by omega)) (Tr.neg (nI_nlt (a := 150) (b := F.length + 1) hF (by decide)) (Tr.gp (Lp_23_0 L) ?_))
    rw [nI_pred]
    refine Tr.ca (La_24 L (by omega)) ?_
    rw [nI_clamp (by omega), p3.1]
    exact Tr.ret ⟨rfl, rfl⟩
theorem X3_ibeg (L : Lay h) (P : PaS h l F B) (hF : F.length ≤ 150) : f_X3_innermostBegin 23 h = some (nI (stt F), h) := by
  obtain ⟨p1, p2, p3, p4, p5, p6⟩ := P
  apply Tr.of_eq
  refine Tr.ck (Lo_23 L) ?_
  rw [p2]
  cases F with
  | nil => exact Tr.pos (by decide) (Tr.ret ⟨rfl, rfl⟩)
  | cons f F =>
    rw [List.length_cons] at hF ⊢
    refine Tr.neg (nI_nle (by omega) (by omega)) (Tr.neg (nI_nlt (a := 150) (b := F.length + 1) hF (by decide)) (Tr.gp (Lp_23_1 L) ?_))
    rw [nI_pred]
    refine Tr.ca (La_25 L (by omega)) ?_
    rw [nI_clamp (by omega), p4.1]
    exact Tr.ret ⟨nI_1 _, rfl⟩
/-- something opens; the state is 0 -/
theorem X3_open (L : Lay h) (P : PaS h l F B) (hF : F.length < 150) (k p r : Nat) : Tr (f_X3_open 23 (nI k) (nI p) h) (fun _ h1 => PaS h1 l ((k, p, r) :: F) B ∧ gI h1 23 6 = nI 0 ∧ Fr prR h h1 ∧ ∀ i, 7 ≤ i → gI h1 23 i = gI h 23 i) := by
  obtain ⟨p1, p2, p3, p4, p5, p6⟩ := P
  refine Tr.ck (Lo_23 L) ?_
  rw [p2]
  refine Tr.neg (nI_pos (by omega)) (Tr.neg (nI_ge (b := 150) hF (by decide)) (Tr.gp (Lp_23_0 L) (Tr.ca (La_24 L hF) ?_)))
  rw [nI_clamp (by omega)]
  have L2 : Lay (sI h 24 F.length (nI k)) := L
  refine Tr.gp (Lp_23_1 L2) ?_
  rw [gI_sI_ne (by decide), p2]
  refine Tr.ca (La_25 L2 hF) (Tr.nm (fun h3 e3 => ?_))
  rw [nI_clamp (by omega)] at e3
  have g : ∀ a, a ≠ 24 → a ≠ 25 → gI h3 a = gI h a := fun a x y => by rw [e3, gI_sI_ne y, gI_sI_ne x]
  rw [g 23 (by decide) (by decide), p2, nI_1]
  refine Tr.ret ⟨⟨?_, ?_, ?_, ?_, ?_, ?_⟩, by rw [gI_sI, upd_eq]; rfl, ?_, fun i x => ?_⟩
  · unfold PolI; rw [gI_sI_ne (by decide), gI_sI_ne (by decide), gI_sI_ne (by decide), gI_sI_ne (by decide), gI_sI_ne (by decide), gI_sI_ne (by decide), g 27 (by decide) (by decide), g 28 (by decide) (by decide), g 29 (by decide) (by decide)]; exact p1
  · rw [gI_sI, upd_ne (by decide), gI_sI, upd_eq, List.length_cons]
  · rw [gI_sI_ne (by decide), gI_sI_ne (by decide), e3, gI_sI_ne (by decide), gI_sI]; exact p3.push (k, p, r)
  · rw [gI_sI_ne (by decide), gI_sI_ne (by decide), e3, gI_sI, gI_sI_ne (by decide)]; exact p4.push (k, p, r)
  · rw [gI_sI, upd_ne (by decide), gI_sI, upd_ne (by decide), g 23 (by decide) (by decide)]; exact p5
  · rw [gI_sI_ne (by decide), gI_sI_ne (by decide), g 26 (by decide) (by decide)]; exact p6
  · have F3 : Fr prR h h3 := by rw [e3]; exact (Fr.sI (show prR 24 from ⟨by decide, by decide⟩)).tr (Fr.sI ⟨by decide, by decide⟩)
    exact (F3.tr fr_fld).tr fr_fld
  · rw [gI_sI, upd_ne (by omega), gI_sI, upd_ne (by omega), g 23 (by decide) (by decide)]
/-- what is open ends -/
theorem PaS.shut {f : Nat × Nat × Nat} (P : PaS h l (f :: F) B) : PaS (sI h 23 2 (gI h 23 2 - 1)) l F B ∧ QFr h (sI h 23 2 (gI h 23 2 - 1)) := by
  obtain ⟨p1, p2, p3, p4, p5, p6⟩ := P
  rw [List.length_cons] at p2
  rw [p2, nI_pred]
  refine ⟨⟨?_, by rw [gI_sI, upd_eq], ?_, ?_, ?_, ?_⟩, fr_fld, fun i x => by rw [gI_sI, upd_ne (by omega)]⟩
  · unfold PolI; rw [gI_sI_ne (by decide), gI_sI_ne (by decide), gI_sI_ne (by decide)]; exact p1
  · rw [gI_sI_ne (by decide)]; exact p3.2
  · rw [gI_sI_ne (by decide)]; exact p4.2
  · rw [gI_sI, upd_ne (by decide)]; exact p5
  · rw [gI_sI_ne (by decide)]; exact p6
theorem PaS.pol {h1 : Hp} {m : List Nat} (P : PaS h l F B) (Q : PolI h1 27 m false) (Fx : Fr (pR 27) h h1) : PaS h1 m F B ∧ QFr h h1 := by
  obtain ⟨p1, p2, p3, p4, p5, p6⟩ := P
  have n : ∀ a, a ≤ 26 → gI h1 a = gI h a := fun a x => Fx.I (fun z => by unfold pR at z; omega)
  refine ⟨⟨Q, by rw [n 23 (by decide)]; exact p2, by rw [n 24 (by decide)]; exact p3, by rw [n 25 (by decide)]; exact p4, by rw [n 23 (by decide)]; exact p5, by rw [n 26 (by decide)]; exact p6⟩, Fx.wk (fun a x => by unfold pR at x; unfold prR; omega), fun i _ => by rw [n 23 (by decide)]⟩
theorem X3_add (L : Lay h) (P : PaS h l F B) (hl : l.length < 2 ^ 30) {kd f v : Nat} (h1 : kd < 9) (h2 : f < 4) (h3 : v < 4) : Tr (f_X4_add 27 (nI kd) (nI f) (nI v) h) (fun _ h1 => PaS h1 (l ++ [16 * kd + 4 * f + v]) F B ∧ QFr h h1) :=
  Tr.imp (X4_add L PA27 P.1 hl h1 h2 h3) (fun _ h4 q => P.pol q.1 q.2)
/-- a pair ends, where there is one -/
theorem X3_endPair (L : Lay h) {N n : Nat} (V : CV N n (l, F)) (hn : n ≤ 150) (hN : N < 2 ^ 30) (P : PaS h l F (sB l)) (e9 : gI h 23 9 = -1) {k kd c : Nat} (hkk : k = 1 ∨ k = 2) (hkd : kd < 9) (ec : c = 16 * kd) (ha : ar c = 2) (ho : ∀ a0 a1 a2, opB c a0 a1 a2 = (a1 && a0)) :
    Tr (f_X3_endPair 23 (nI k) (nI kd) h) (fun _ h1 => PaS h1 (cPair k c (l, F)).1 (cPair k c (l, F)).2 (sB (cPair k c (l, F)).1) ∧ QFr h h1) := by
  obtain ⟨v1, v2, v3, v4, v5⟩ := V
  dsimp only at v1 v2 v3 v4 v5
  refine Tr.ck (Lo_23 L) (Tr.pos e9 (Tr.be (X3_inner L P (by omega)) ?_))
  by_cases c1 : hk F = k
  · cases F with
    | nil => exact absurd (show 0 = k from c1) (by omega)
    | cons f F =>
      have c1 : f.1 = k := c1
      have ep : cPair k c (l, f :: F) = (l ++ [c], F) := if_pos c1
      rw [ep]
      have ecn : cnt (f :: F) = 1 + cnt F := by show (if f.1 ≤ 2 then 1 else if f.1 ≤ 5 then 0 else if f.1 = 6 then 1 else 2) + cnt F = _; rw [if_pos (by omega)]
      have hlen := sB_len v1
      rw [ecn] at hlen v4
      obtain ⟨a0, a1, t, es⟩ := st_two (st := sB l) (by omega)
      have esn : sB (l ++ [c]) = (a1 && a0) :: t := by
        rw [sB_snoc, es, ha, ho]; rfl
      rw [esn]
      rw [es] at P hlen
      rw [List.length_cons, List.length_cons] at hlen
      have hke : hk (f :: F) = k := c1
      rw [hke]
      have add := X3_add L P (by omega) (kd := kd) (f := 0) (v := 0) hkd (by decide) (by decide)
      rw [show 16 * kd + 4 * 0 + 0 = c by omega] at add
      refine Tr.pos rfl (Tr.ck (Lo_23 L) (Tr.gp (Lp_23_5 L) (Tr.ck (Lpo L PA27) (Tr.bd add (fun _ h1 q => ?_)))))
      obtain ⟨P1, F1⟩ := q
      have L1 := F1.1.lay L
      refine Tr.ck (Lo_23 L1) (Tr.bd (X3_pop L1 P1 (by rw [List.length_cons]; omega)) (fun r1 h2 q => ?_))
      obtain ⟨rfl, P2, F2⟩ := q
      have L2 := F2.1.lay L1
      refine Tr.ck (Lo_23 L2) (Tr.bd (X3_pop L2 P2 (by omega)) (fun r2 h3 q => ?_))
      obtain ⟨rfl, P3, F3⟩ := q
      have L3 := F3.1.lay L2
      have go : ∀ b, b = (a1 && a0) → Tr (f_X3_endPair_52 23 23 (bi b) h3) (fun _ h1 => PaS h1 (l ++ [c]) F ((a1 && a0) :: t) ∧ QFr h h1) := fun b eb => by
        subst eb
        refine Tr.ck (Lo_23 L3) (Tr.bd (X3_push L3 P3 (by omega) _) (fun _ h4 q => ?_))
        obtain ⟨P4, F4⟩ := q
        obtain ⟨P5, F5⟩ := P4.shut
        exact Tr.ck (Lo_23 (F4.1.lay L3)) (Tr.ret ⟨P5, (((F1.tr F2).tr F3).tr F4).tr F5⟩)
      cases a1 with
      | false => exact Tr.pos rfl (go false rfl)
      | true =>
        refine Tr.neg (by decide) ?_
        cases a0 with
        | false => exact Tr.pos rfl (go false rfl)
        | true => exact Tr.neg (by decide) (go true rfl)
  · have ep : cPair k c (l, F) = (l, F) := cPair_no (s := (l, F)) c1
    rw [ep]
    have hb : hk F ≤ 7 := by
      cases F with
      | nil => exact Nat.zero_le _
      | cons f F => exact v2.2.2.1
    exact Tr.neg (nI_ne (by omega) (by omega) c1) (Tr.ret ⟨P, QFr.rf⟩)
theorem X3_endPairE (L : Lay h) {e : Nat} (he : e < 2 ^ 31) (e9 : gI h 23 9 = nI e) (k kd : Int32) : f_X3_endPair 23 k kd h = some ((), h) := by
  apply Tr.of_eq
  refine Tr.ck (Lo_23 L) ?_
  rw [e9]
  exact Tr.neg (no_m1 he) (Tr.ret ⟨rfl, rfl⟩)
theorem X3_seq (L : Lay h) {N n : Nat} (V : CV N n (l, F)) (hn : n ≤ 150) (hN : N < 2 ^ 30) (P : PaS h l F (sB l)) (e9 : gI h 23 9 = -1) : Tr (f_X3_endPair 23 2 5 h) (fun _ h1 => PaS h1 (cPair 2 80 (l, F)).1 (cPair 2 80 (l, F)).2 (sB (cPair 2 80 (l, F)).1) ∧ QFr h h1) :=
  X3_endPair L V hn hN P e9 (k := 2) (kd := 5) (c := 80) (Or.inr rfl) (by decide) rfl rfl (fun _ _ _ => rfl)
theorem X3_uni (L : Lay h) {N n : Nat} (V : CV N n (l, F)) (hn : n ≤ 150) (hN : N < 2 ^ 30) (P : PaS h l F (sB l)) (e9 : gI h 23 9 = -1) : Tr (f_X3_endPair 23 1 4 h) (fun _ h1 => PaS h1 (cPair 1 64 (l, F)).1 (cPair 1 64 (l, F)).2 (sB (cPair 1 64 (l, F)).1) ∧ QFr h h1) :=
  X3_endPair L V hn hN P e9 (k := 1) (kd := 4) (c := 64) (Or.inl rfl) (by decide) rfl rfl (fun _ _ _ => rfl)
/-- an error is set -/
theorem err9 {e : Nat} : gI (sI h 23 9 (nI e)) 23 9 = nI e := by rw [gI_sI, upd_eq]
end PAR

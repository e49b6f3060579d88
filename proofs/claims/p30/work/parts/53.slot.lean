/-! THE CLASS'S SLOTS -/
/-- whether a row is a predicate -/
def opB (c : Nat) (a0 a1 _a2 : Bool) : Bool := if c < 48 then true else if c < 64 then false else if c < 96 then a1 && a0 else if c < 112 then false else if c < 128 then a0 else a1 && a0
def prd (l : List Nat) : Bool := (fld false opB (cf l) l.length).getD 0 false
theorem lvs_congr {α : Type} [DecidableEq α] {x y : Nat → α} {L : List α} : ∀ {n : Nat}, (∀ j, j < n → x j = y j) → lvs x L n = lvs y L n := by
  intro n
  induction n with
  | zero => intro _; rfl
  | succ n ih => intro h; show insA _ _ = insA _ _; rw [ih (fun j hj => h j (by omega)), h n (by omega)]
theorem alq_congr {b c : Nat → Nat} {n k : Nat} (h : ∀ j, j < n → b j = c j) (hk : 4 * k + 3 < n) : alq b k = alq c k := by
  unfold alq
  rw [h (4 * k) (by omega), h (4 * k + 1) (by omega), h (4 * k + 2) (by omega), h (4 * k + 3) (by omega)]
theorem tsk_congr {b c : Nat → Nat} {n k f : Nat} (h : ∀ j, j < n → b j = c j) (hk : 4 * k + 3 < n) : tsk f b k = tsk f c k := by
  unfold tsk
  rw [h (4 * k) (by omega), h (4 * k + 1) (by omega), h (4 * k + 2) (by omega), h (4 * k + 3) (by omega)]
theorem tss_congr {b c : Nat → Nat} {n f : Nat} {T : List TE} (h : ∀ j, j < n → b j = c j) : ∀ m, 4 * m ≤ n → tss f b T m = tss f c T m := by
  intro m
  induction m with
  | zero => intro _; rfl
  | succ m ih => intro hm; rw [tss_s, tss_s, ih (by omega), alq_congr h (by omega), tsk_congr h (by omega)]
theorem nid_congr {b c : Nat → Nat} {n k f o : Nat} {T : List TE} (h : ∀ j, j < n → b j = c j) (hk : 4 * k + 3 < n) : nid o f b T k = nid o f c T k := by
  unfold nid
  rw [alq_congr h hk, tsk_congr h hk, h (4 * k) (by omega)]
section DC
variable {R S : Nat → Int64} (h : ∀ p, p < 64 → R p = S p)
theorem dL_congr (h : ∀ p, p < 64 → R p = S p) (L : List (Int64 × Int64)) : dL R L = dL S L := lvs_congr (fun j hj => by unfold acts; rw [h j hj])
theorem dB3_congr (h : ∀ p, p < 64 → R p = S p) (L : List (Int64 × Int64)) {p : Nat} (hp : p < 64) : dB3 R L p = dB3 S L p := by unfold dB3 acts; rw [dL_congr h, h p hp]
theorem dT2_congr (h : ∀ p, p < 64 → R p = S p) (L : List (Int64 × Int64)) (T : List TE) : dT2 R L T = dT2 S L T := tss_congr (n := 64) (fun j hj => dB3_congr h L hj) 16 (by decide)
theorem dB2_congr (h : ∀ p, p < 64 → R p = S p) (o : Nat) (L : List (Int64 × Int64)) (T : List TE) {k : Nat} (hk : k < 16) : dB2 o R L T k = dB2 o S L T k := by
  unfold dB2
  rw [dT2_congr h, nid_congr (n := 64) (fun j hj => dB3_congr h L hj) (by omega)]
theorem dT1_congr (h : ∀ p, p < 64 → R p = S p) (o : Nat) (L : List (Int64 × Int64)) (T : List TE) : dT1 o R L T = dT1 o S L T := by
  unfold dT1
  rw [dT2_congr h, tss_congr (n := 16) (fun j hj => dB2_congr h o L T hj) 4 (by decide)]
theorem dB1_congr (h : ∀ p, p < 64 → R p = S p) (o : Nat) (L : List (Int64 × Int64)) (T : List TE) {k : Nat} (hk : k < 4) : dB1 o R L T k = dB1 o S L T k := by
  unfold dB1
  rw [dT1_congr h, nid_congr (n := 16) (fun j hj => dB2_congr h o L T hj) (by omega)]
theorem dT0_congr (h : ∀ p, p < 64 → R p = S p) (o : Nat) (L : List (Int64 × Int64)) (T : List TE) : dT0 o R L T = dT0 o S L T := by
  unfold dT0
  rw [dT1_congr h, tss_congr (n := 4) (fun j hj => dB1_congr h o L T hj) 1 (by decide)]
theorem dRt_congr (h : ∀ p, p < 64 → R p = S p) (o : Nat) (L : List (Int64 × Int64)) (T : List TE) : dRt o R L T = dRt o S L T := by
  unfold dRt
  rw [dT0_congr h, nid_congr (n := 4) (fun j hj => dB1_congr h o L T hj) (by decide)]
end DC
theorem cT_congr {R S : Nat → Int64} (h : ∀ p, p < 64 → R p = S p) : cT R = cT S := by unfold cT cO; rw [dL_congr h, dT0_congr h]
theorem cR_congr {R S : Nat → Int64} (h : ∀ p, p < 64 → R p = S p) : cR R = cR S := by unfold cR cO; rw [dL_congr h, dRt_congr h]
section X7
variable {h : Hp} {s : Nat} {l : List Nat}
/-- what follows from the policy of a slot -/
def Drv (h : Hp) (s : Nat) (l : List Nat) : Prop :=
  gI h (39 + 22 * s) 4 = nI (prS l).length ∧ (∀ i, i < (prS l).length → gI h (40 + 22 * s) i = nI ((prS l).getD i 0)) ∧ (∀ p, p < 64 → gL h (45 + 22 * s) p = evI l p) ∧
  DgOK h s (dL (evI l) []) (cT (evI l)) (cR (evI l)) ∧ TbR h s (tbR (dL (evI l) []) (cT (evI l)) (cR (evI l))) (tbN (dL (evI l) []) (cT (evI l)) (cR (evI l)))
def SlotOK (h : Hp) (s : Nat) (l : List Nat) : Prop := PolI h (36 + 22 * s) l (prd l) ∧ Wf l ∧ (gI h (35 + 22 * s) 5 = 0 ∨ (gI h (35 + 22 * s) 5 = 1 ∧ Drv h s l))
/-- the cells of slot s -/
def slR (s : Nat) : Nat → Prop := fun a => 35 + 22 * s ≤ a ∧ a ≤ 56 + 22 * s
theorem Drv.fr {A : Nat → Prop} {h1 : Hp} (G : Drv h s l) (F : Fr A h h1) (hA : ∀ a, 39 + 22 * s ≤ a → a ≤ 56 + 22 * s → a ≠ 53 + 22 * s → ¬ A a) : Drv h1 s l := by
  obtain ⟨g1, g2, g3, g4, g5⟩ := G
  refine ⟨?_, ?_, ?_, g4.fr F (fun a x y => hA a (by omega) (by omega) (by omega)), g5.fr F (fun a x y => hA a (by omega) (by omega) (by omega))⟩
  · rw [F.I (hA _ (by omega) (by omega) (by omega))]; exact g1
  · rw [F.I (hA _ (by omega) (by omega) (by omega))]; exact g2
  · rw [F.L (hA _ (by omega) (by omega) (by omega))]; exact g3
theorem SlotOK.fr {A : Nat → Prop} {h1 : Hp} (G : SlotOK h s l) (F : Fr A h h1) (hA : ∀ a, slR s a → a ≠ 53 + 22 * s → ¬ A a) : SlotOK h1 s l := by
  obtain ⟨g1, g2, g3⟩ := G
  refine ⟨g1.fr F (hA _ ⟨by omega, by omega⟩ (by omega)) (hA _ ⟨by omega, by omega⟩ (by omega)) (hA _ ⟨by omega, by omega⟩ (by omega)), g2, ?_⟩
  rw [F.I (hA (35 + 22 * s) ⟨by omega, by omega⟩ (by omega))]
  exact g3.imp id (fun x => ⟨x.1, x.2.fr F (fun a y z w => hA a ⟨by omega, by omega⟩ w)⟩)
theorem X7_policy (L : Lay h) (hs : s < 4) : f_X7_policy (35 + 22 * s) h = some (36 + 22 * s, h) := Tr.of_eq (Tr.ck (Lso_35 L hs) (Tr.gp (Lsp_35_0 L hs) (Tr.ret ⟨rfl, rfl⟩)))
theorem X7_printout (L : Lay h) (hs : s < 4) : f_X7_printout (35 + 22 * s) h = some (39 + 22 * s, h) := Tr.of_eq (Tr.ck (Lso_35 L hs) (Tr.gp (Lsp_35_1 L hs) (Tr.ret ⟨rfl, rfl⟩)))
theorem X7_relation (L : Lay h) (hs : s < 4) : f_X7_relation (35 + 22 * s) h = some (44 + 22 * s, h) := Tr.of_eq (Tr.ck (Lso_35 L hs) (Tr.gp (Lsp_35_2 L hs) (Tr.ret ⟨rfl, rfl⟩)))
theorem X7_diagram (L : Lay h) (hs : s < 4) : f_X7_diagram (35 + 22 * s) h = some (46 + 22 * s, h) := Tr.of_eq (Tr.ck (Lso_35 L hs) (Tr.gp (Lsp_35_3 L hs) (Tr.ret ⟨rfl, rfl⟩)))
theorem X7_table (L : Lay h) (hs : s < 4) : f_X7_table (35 + 22 * s) h = some (54 + 22 * s, h) := Tr.of_eq (Tr.ck (Lso_35 L hs) (Tr.gp (Lsp_35_4 L hs) (Tr.ret ⟨rfl, rfl⟩)))
/-- what upToDate may change -/
def upR (s : Nat) : Nat → Prop := fun a => a = 31 ∨ a = 35 + 22 * s ∨ (39 + 22 * s ≤ a ∧ a ≤ 56 + 22 * s)
theorem X7_upToDate (L : Lay h) (hs : s < 4) (G : SlotOK h s l) : Tr (f_X7_upToDate (35 + 22 * s) 30 h) (fun r h1 => r = 35 + 22 * s ∧ SlotOK h1 s l ∧ Drv h1 s l ∧ Fr (upR s) h h1) := by
  have G0 := G
  obtain ⟨P, W, hf⟩ := G
  refine Tr.ck (Lso_35 L hs) ?_
  rcases hf with hf | ⟨hf, hd⟩
  · rw [hf]
    refine Tr.pos rfl (Tr.gp (Lsp_35_1 L hs) (Tr.gp (Lsp_35_0 L hs) (Tr.ck (Lso_39 L hs) (Tr.bd (X5_print L hs P W) (fun _ h1 q => ?_)))))
    obtain ⟨F1, p1, p2⟩ := q
    have L1 := F1.lay L
    have P1 := P.fr F1 (fun z => by unfold q5 at z; omega) (fun z => by unfold q5 at z; omega) (fun z => by unfold q5 at z; omega)
    refine Tr.ck (Lso_35 L1 hs) (Tr.gp (Lsp_35_0 L1 hs) (Tr.gp (Lsp_35_2 L1 hs) (Tr.ck (Lo_30 L1) (Tr.bd (X1_evaluate L1 (PA_s hs) P1 hs W) (fun _ h2 q => ?_)))))
    obtain ⟨f, g, rfl, q1⟩ := q
    have F2 : Fr (fun a => a = 31 ∨ a = 45 + 22 * s) h1 (wL (wL h1 31 f) (45 + 22 * s) g) := (Fr.wL (Or.inl rfl)).tr (Fr.wL (Or.inr rfl))
    have L2 := F2.lay L1
    have hg : gL (wL (wL h1 31 f) (45 + 22 * s) g) (45 + 22 * s) = g := gL_wL
    generalize wL (wL h1 31 f) (45 + 22 * s) g = h2 at F2 L2 hg ⊢
    refine Tr.ck (Lso_35 L2 hs) (Tr.gp (Lsp_35_3 L2 hs) (Tr.gp (Lsp_35_2 L2 hs) (Tr.ck (Lso_46 L2 hs) (Tr.bd (X0_build L2 hs) (fun _ h3 q => ?_)))))
    obtain ⟨D3, F3⟩ := q
    rw [hg, dL_congr q1, cT_congr q1, cR_congr q1] at D3
    have L3 := F3.lay L2
    refine Tr.ck (Lso_35 L3 hs) (Tr.gp (Lsp_35_4 L3 hs) (Tr.gp (Lsp_35_3 L3 hs) (Tr.ck (Lso_54 L3 hs) (Tr.bd (X8_build L3 hs D3) (fun _ h4 q => ?_)))))
    obtain ⟨B4, F4⟩ := q
    have L4 := F4.lay L3
    have D4 := D3.fr F4 (fun a x y => qT_out y)
    refine Tr.ck (Lso_35 L4 hs) (Tr.ret ?_)
    have F5 : Fr (fun a => a = 35 + 22 * s) h4 (sI h4 (35 + 22 * s) 5 1) := Fr.sI rfl
    have FF : Fr (upR s) h (sI h4 (35 + 22 * s) 5 1) := ((((F1.wk (fun a x => by unfold q5 at x; unfold upR; omega)).tr (F2.wk (fun a x => by unfold upR; omega))).tr (F3.wk (fun a x => by unfold qD at x; unfold upR; omega))).tr (F4.wk (fun a x => by unfold qT at x; unfold upR; omega))).tr (F5.wk (fun a x => by unfold upR; omega))
    have Dd : Drv (sI h4 (35 + 22 * s) 5 1) s l := by
      refine ⟨?_, ?_, ?_, D4.fr F5 (fun a x y z => by omega), B4.fr F5 (fun a x y z => by omega)⟩
      · rw [F5.I (by omega), F4.I (fun z => by unfold qT at z; omega), F3.I (fun z => by unfold qD at z; omega), F2.I (by omega)]; exact p1
      · rw [F5.I (by omega), F4.I (fun z => by unfold qT at z; omega), F3.I (fun z => by unfold qD at z; omega), F2.I (by omega)]; exact p2
      · rw [F5.L (by omega), F4.L (fun z => by unfold qT at z; omega), F3.L (fun z => by unfold qD at z; omega), hg]; exact q1
    exact ⟨rfl, ⟨P.fr FF (fun z => by unfold upR at z; omega) (fun z => by unfold upR at z; omega) (fun z => by unfold upR at z; omega), W, Or.inr ⟨by rw [gI_sI, upd_eq], Dd⟩⟩, Dd, FF⟩
  · rw [hf]
    exact Tr.neg (by decide) (Tr.ret ⟨rfl, G0, hd, Fr.rf⟩)
/-- a slot gets another policy -/
def hoR (s : Nat) : Nat → Prop := fun a => 35 + 22 * s ≤ a ∧ a ≤ 38 + 22 * s
theorem X7_hold (L : Lay h) (hs : s < 4) {q : Nat} {m : List Nat} (hq : PA q) (hne : 36 + 22 * s ≠ q) (Q : PolI h q m (prd m)) (W : Wf m) : Tr (f_X7_hold (35 + 22 * s) q h) (fun _ h1 => SlotOK h1 s m ∧ Fr (hoR s) h h1) := by
  have hap := PA_apart _ (PA_s hs) _ hq hne
  have sub : ∀ a, pR (36 + 22 * s) a → hoR s a := fun a x => by unfold pR at x; unfold hoR; omega
  have nq : ∀ d, d ≤ 2 → ¬ pR (36 + 22 * s) (q + d) := fun d hd x => by unfold pR at x; omega
  refine Tr.ck (Lso_35 L hs) (Tr.gp (Lsp_35_0 L hs) (Tr.ck (Lso_36 L hs) (Tr.bd (X4_start L (PA_s hs)) (fun _ h1 z => ?_))))
  obtain ⟨P1, F1⟩ := z
  have L1 := F1.lay L
  have Q1 := Q.fr F1 (nq 0 (by omega)) (nq 1 (by omega)) (nq 2 (by omega))
  refine Tr.ck (Lso_35 L1 hs) (Tr.gp (Lsp_35_0 L1 hs) (Tr.ck (Lso_36 L1 hs) (Tr.bd (X4_addAll L1 (PA_s hs) hq hne P1 Q1 (by simp) W.2.2.1 W.1) (fun _ h2 z => ?_))))
  obtain ⟨P2, F2⟩ := z
  rw [List.nil_append] at P2
  have L2 := F2.lay L1
  have Q2 := Q1.fr F2 (nq 0 (by omega)) (nq 1 (by omega)) (nq 2 (by omega))
  refine Tr.ck (Lso_35 L2 hs) (Tr.gp (Lsp_35_0 L2 hs) (Tr.ck (Lpo L2 hq) (Tr.be (X4_givesPredicate L2 hq Q2) (Tr.ck (Lso_36 L2 hs) (Tr.bd (X4_mark L2 (PA_s hs) P2 (prd m)) (fun _ h3 z => ?_))))))
  obtain ⟨P3, F3⟩ := z
  have L3 := F3.lay L2
  refine Tr.ck (Lso_35 L3 hs) (Tr.ret ?_)
  have F4 : Fr (fun a => a = 35 + 22 * s) h3 (sI h3 (35 + 22 * s) 5 0) := Fr.sI rfl
  refine ⟨⟨P3.fr F4 (by omega) (by omega) (by omega), W, Or.inl (by rw [gI_sI, upd_eq])⟩, (((F1.wk sub).tr (F2.wk sub)).tr (F3.wk sub)).tr (F4.wk (fun a x => by unfold hoR; omega))⟩
end X7

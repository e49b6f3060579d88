/-! THE REFERENCE'S PARSER: behind an operand -/
def BhQ (h0 : Hp) (G : St) (i : Nat) (R : Nat ⊕ List Nat) : Int32 → Hp → Prop := fun r h1 => (∃ e, R = Sum.inl e ∧ r = nI e ∧ e < 2 ^ 31 ∧ MI h1 G ∧ Fr mA h0 h1) ∨ (r = -1 ∧ ((gI h1 123 16 = 0 ∧ ∃ l, R = Sum.inr l ∧ MkR h1 l ∧ Pre l 1 ∧ l.length < 6000 ∧ MI h1 G ∧ Fr mA h0 h1) ∨ (gI h1 123 16 = 1 ∧ ∃ j l F g, i < j ∧ j ≤ G.1 ∧ PV j ((l, F), 0, 0, 0) ∧ BgR F g ∧ MpI h0 G l F (sB l) g j h1 ∧ R = Pq G j ((l, F), 0, 0, 0)) ∨ (gI h1 123 16 = 2 ∧ ∃ j s, i < j ∧ j ≤ G.1 ∧ CV (31 * j + 30) j s ∧ BS h0 G j s h1 ∧ R = Pq G j (s, 3, 0, 0))))
section REF
variable {h h0 : Hp} {G : St} {l : List Nat} {F : FrS} {B : List Bool} {g : List Nat} {i : Nat}
theorem X10_bh77 {R : Nat ⊕ List Nat} {j k c : Nat} (hn : G.1 ≤ 150) (hi : i < G.1) (hj : j ≤ i) (hk2 : k = 1 ∨ k = 2) (hc : c = ch k) (hF : F.length < 160) (I : BS h0 G i (l, F) h) (V : PV (i + 1) ((l, (k, i, i) :: F), 0, 0, 0)) (eR : R = Pq G (i + 1) ((l, (k, i, i) :: F), 0, 0, 0)) : Tr (f_X10_behind_77 123 (nI c) h) (BhQ h0 G j R) := by
  subst hc
  obtain ⟨Bg, b1, I1⟩ := I
  dsimp only at b1 I1
  refine Tr.ck (Lo_123 I1.1.1) (Tr.bd (X10_pu I1 hF k i) (fun _ h1 q => ?_))
  obtain ⟨I2, _⟩ := q
  refine Tr.ck (Lo_123 I2.1.1) ?_
  rw [I2.2.2.2.1, nI_1]
  obtain ⟨I3, _⟩ := I2.at (i + 1)
  have I4 := I3.stage 1
  have b2 : BgR ((k, i, i) :: F) (stt F :: Bg) := by
    unfold BgR
    rw [if_pos (by omega)]
    exact ⟨Bg, rfl, b1⟩
  exact Tr.ret (Or.inr ⟨rfl, Or.inr (Or.inl ⟨by rw [gI_sI, upd_eq], i + 1, l, _, _, by omega, by omega, V, b2, I4, eR⟩)⟩)
theorem X10_bh399 {s : PSy} {R : Nat ⊕ List Nat} {j : Nat} (hi : i < G.1) (hj : j ≤ i) (I : BS h0 G i s h) (e16 : gI h 123 16 = 2) (V : CV (31 * (i + 1) + 30) (i + 1) s) (eR : R = Pq G (i + 1) (s, 3, 0, 0)) : Tr (f_X10_behind_399 123 h) (BhQ h0 G j R) := by
  obtain ⟨Bg, b1, I1⟩ := I
  refine Tr.ck (Lo_123 I1.1.1) ?_
  rw [I1.2.2.2.1, nI_1]
  obtain ⟨I2, st⟩ := I1.at (i + 1)
  exact Tr.ret (Or.inr ⟨rfl, Or.inr (Or.inr ⟨by rw [st]; exact e16, i + 1, s, by omega, by omega, V, ⟨Bg, b1, I2⟩, eR⟩)⟩)
theorem X10_bh399o {R : Nat ⊕ List Nat} {j : Nat} (hi : i < G.1) (hj : j ≤ i) (I : MpI h0 G l F (sB l) g i h) (hb : BgR F g) (e16 : gI h 123 16 = 1) (V : PV (i + 1) ((l, F), 0, 0, 0)) (eR : R = Pq G (i + 1) ((l, F), 0, 0, 0)) : Tr (f_X10_behind_399 123 h) (BhQ h0 G j R) := by
  refine Tr.ck (Lo_123 I.1.1) ?_
  rw [I.2.2.2.1, nI_1]
  obtain ⟨I2, st⟩ := I.at (i + 1)
  exact Tr.ret (Or.inr ⟨rfl, Or.inr (Or.inl ⟨by rw [st]; exact e16, i + 1, l, F, g, by omega, by omega, V, hb, I2, eR⟩)⟩)
/-- a bracket that fits: c at i -/
theorem X10_bh236 {f : Nat × Nat × Nat} {R : Nat ⊕ List Nat} {j c : Nat} {q2 : PQy} (hn : G.1 ≤ 150) (hi : i < G.1) (hj : j ≤ i) (V : CV (31 * i + 30) i (l, f :: F)) (I : BS h0 G i (l, f :: F) h) (hf : (c = 41 ∧ f.1 = 4) ∨ (c = 63 ∧ f.1 = 5) ∨ (c = 124 ∧ f.1 = 6) ∨ (c = 93 ∧ f.1 = 7)) (e : cBr i c (l, f :: F) = Sum.inr q2) (V2 : PV (i + 1) q2) (eR : R = Pq G (i + 1) q2) : Tr (f_X10_behind_236 123 (nI c) (nI (ch f.1)) 1 h) (BhQ h0 G j R) := by
  obtain ⟨Bg, b1, I1⟩ := id I
  obtain ⟨v1, v2, v3, v4, v5⟩ := V
  dsimp only at v1 v2 v3 v4 v5 b1 I1
  have L := I1.1.1
  have hBl := sB_len v1
  have hbl := b1.len
  have er : 3 ≤ f.1 → f.2.2 = stt F := v2.2.2.2.2.2.1
  rw [List.length_cons] at v3 v5
  have eB : cBr i c (l, f :: F) = if c = 41 ∧ f.1 = 4 then Sum.inr ((l, F), 3, 0, 0) else if c = 63 ∧ f.1 = 5 then Sum.inr ((l, (6, i, f.2.2) :: F), 0, 0, 0) else if c = 124 ∧ f.1 = 6 then Sum.inr ((l, (7, i, f.2.2) :: F), 0, 0, 0) else if c = 93 ∧ f.1 = 7 then Sum.inr ((l ++ [128], F), 3, 0, 0) else Sum.inl i := rfl
  rw [eB] at e
  unfold BgR at b1
  refine Tr.neg (by decide) ?_
  have opn : ∀ k, (k = 6 ∧ f.1 = 5 ∨ k = 7 ∧ f.1 = 6) → c = ch k → q2 = ((l, (k, i, f.2.2) :: F), 0, 0, 0) → Tr (ck h 123 10 ((gP h 123 12).bind fun v75 => (ca h v75 20 ((gI h 123 14) - 1) (f_X10_behind_399 123 (sI (sI h v75 ((gI h 123 14) - 1).toNatClampNeg (nI c)) 123 16 1))))) (BhQ h0 G j R) := fun k hk ek eq => by
    subst eq
    obtain ⟨s1, s2, s3, s4, s5, s6⟩ := id I1.2.2.1
    rw [List.length_cons] at s4
    refine Tr.ck (Lo_123 L) (Tr.gp (Lp_123_12 L) ?_)
    rw [s4, nI_pred]
    refine Tr.ca (La_131 L (by omega)) ?_
    rw [nI_clamp (by omega), ek]
    have I2 : MpI h0 G l ((k, i, f.2.2) :: F) (sB l) (stt (f :: F) :: Bg) i (sI h 131 F.length (nI (ch k))) := by
      have nn : ∀ a, a ≠ 131 → gI (sI h 131 F.length (nI (ch k))) a = gI h a := fun a ha => gI_sI_ne ha
      refine I1.go (Fr.sI (Or.inr ⟨by decide, by decide⟩)) (by rw [nn 123 (by decide)]) (by rw [nn 123 (by decide)]) ⟨?_, ?_, ?_, ?_, ?_, ?_⟩ (by rw [nn 123 (by decide)]; exact I1.2.2.2.1)
      · unfold MkR; rw [nn 123 (by decide), nn 128 (by decide)]; exact s1
      · unfold PSt; rw [nn 123 (by decide), nn 130 (by decide)]; exact s2
      · rw [nn 129 (by decide)]; exact s3
      · rw [nn 123 (by decide), List.length_cons]; exact s4
      · rw [gI_sI]; exact s5.2.push (k, i, f.2.2)
      · rw [nn 132 (by decide)]; exact s6
    have b2 : BgR ((k, i, f.2.2) :: F) (stt (f :: F) :: Bg) := by
      unfold BgR
      rcases hk with ⟨rfl, h5⟩ | ⟨rfl, h6⟩
      · rw [if_neg (by omega), if_pos (by omega)] at b1
        exact ⟨_, _, rfl, b1⟩
      · rw [if_neg (by omega), if_neg (by omega), if_pos h6] at b1
        obtain ⟨b, t, e1, e2⟩ := b1
        exact ⟨_, b, t, by rw [e1], e2⟩
    exact X10_bh399o hi hj (I2.stage 1) b2 (by rw [gI_sI, upd_eq]) V2 eR
  rcases hf with ⟨c1, f1⟩ | ⟨c1, f1⟩ | ⟨c1, f1⟩ | ⟨c1, f1⟩
  · rw [if_pos ⟨c1, f1⟩] at e
    cases e
    rw [if_neg (by omega), if_pos (by omega)] at b1
    obtain ⟨a0, t, es⟩ := st_one (st := sB l) (by omega)
    rw [es] at I1
    rw [es, List.length_cons] at hBl
    obtain ⟨I2, e3, st2⟩ := I1.shut
    refine Tr.pos (by rw [f1]; rfl) (Tr.ck (Lo_123 L) ?_)
    refine X10_setB I2 (by omega) (by omega) (by omega) e3 (fun h4 I4 st4 => ?_)
    rw [er (by omega), ← es] at I4
    exact X10_bh399 hi hj ⟨Bg, b1, I4.stage 2⟩ (by rw [gI_sI, upd_eq]) V2.cv eR
  · rw [if_neg (by omega), if_pos ⟨c1, f1⟩] at e
    exact Tr.neg (by rw [f1]; decide) (Tr.neg (by rw [f1]; decide) (opn 6 (Or.inl ⟨rfl, f1⟩) c1 (Sum.inr.inj e).symm))
  · rw [if_neg (by omega), if_neg (by omega), if_pos ⟨c1, f1⟩] at e
    exact Tr.neg (by rw [f1]; decide) (Tr.neg (by rw [f1]; decide) (opn 7 (Or.inr ⟨rfl, f1⟩) c1 (Sum.inr.inj e).symm))
  · rw [if_neg (by omega), if_neg (by omega), if_neg (by omega), if_pos ⟨c1, f1⟩] at e
    cases e
    rw [if_neg (by omega), if_neg (by omega), if_neg (by omega)] at b1
    obtain ⟨bb, cc, tt, eb, b2⟩ := b1
    have hcn : cnt (f :: F) = 2 + cnt F := by show (if f.1 ≤ 2 then 1 else if f.1 ≤ 5 then 0 else if f.1 = 6 then 1 else 2) + cnt F = _; rw [f1]; rfl
    have hb2 := b2.len
    obtain ⟨a0, a1, a2, t, es⟩ := st_three (st := sB l) (by omega)
    have esn : sB (l ++ [128]) = (a1 && a0) :: t := by rw [sB_snoc, es]; rfl
    rw [es, eb] at I1
    rw [es, List.length_cons, List.length_cons, List.length_cons] at hBl
    obtain ⟨I2, e3, st2⟩ := I1.shut
    obtain ⟨s1, ⟨s2, s2'⟩, s3, s4, s5, s6⟩ := id I2.2.2.1
    refine Tr.neg (by rw [f1]; decide) (Tr.pos (by rw [f1]; rfl) (Tr.ck (Lo_123 L) ?_))
    generalize sI h 123 14 (gI h 123 14 - 1) = h2 at I2 e3 st2 s1 s2 s2' s3 s4 s5 s6
    rw [List.length_cons, List.length_cons, List.length_cons] at s2
    have e2 : gI h2 123 10 - 2 = nI (t.length + 1) := by rw [s2]; exact pk_sub (b := 2) (by omega)
    rw [e2]
    refine Tr.nm (fun h3 e3' => ?_)
    have g10 : gI h3 123 10 = nI (t.length + 1) := by rw [e3', gI_sI, upd_eq]
    have L3 : Lay h3 := by rw [e3']; exact I2.1.1
    have g130 : gI h3 130 = gI h2 130 := by rw [e3', gI_sI_ne (by decide)]
    have m1 : gI h3 123 10 - 1 = nI t.length := by rw [g10]; exact nI_pred _
    have p1 : gI h3 123 10 + 1 = nI (t.length + 2) := by rw [g10]; exact nI_1 _
    refine Tr.gp (Lp_123_9 L3) (Tr.gp (Lp_123_9 L3) (Tr.ca (by rw [g10]; exact La_130 L3 (by omega)) (Tr.gp (Lp_123_9 L3) (Tr.ca (by rw [p1]; exact La_130 L3 (by omega)) (Tr.ca (by rw [m1]; exact La_130 L3 (by omega)) ?_)))))
    generalize eH : sI h3 130 (gI h3 123 10 - 1).toNatClampNeg (gI h3 130 (gI h3 123 10).toNatClampNeg &&& gI h3 130 (gI h3 123 10 + 1).toNatClampNeg) = H
    rw [m1, p1, g10, nI_clamp (by omega), nI_clamp (by omega), nI_clamp (by omega), g130] at eH
    have q1 : gI h2 130 (t.length + 1) = bi a1 := s2'.2.1
    have q0 : gI h2 130 (t.length + 2) = bi a0 := s2'.1
    rw [q1, q0, bi_and] at eH
    have I3 : MpI h0 G l F ((a1 && a0) :: t) (cc :: tt) i H := by
      have eq : ∀ k, k ≠ 10 → gI H 123 k = gI h2 123 k := fun k hk => by rw [← eH, gI_sI_ne (by decide), e3', gI_sI, upd_ne hk]
      have nn : ∀ a, a ≠ 123 → a ≠ 130 → gI H a = gI h2 a := fun a x y => by rw [← eH, gI_sI_ne y, e3', gI_sI_ne x]
      have Fx : Fr mpA h2 H := by rw [← eH, e3']; exact (Fr.sI (show mpA 123 from Or.inl rfl)).tr (Fr.sI (Or.inr ⟨by decide, by decide⟩))
      refine I2.go Fx (eq 2 (by decide)) (eq 5 (by decide)) ⟨?_, ⟨?_, ?_⟩, ?_, ?_, ?_, ?_⟩ (by rw [eq 11 (by decide)]; exact I2.2.2.2.1)
      · unfold MkR; rw [eq 7 (by decide), nn 128 (by decide) (by decide)]; exact s1
      · rw [← eH, gI_sI_ne (by decide), g10, List.length_cons]
      · rw [← eH, gI_sI, g130]; exact s2'.2.2.2.push (a1 && a0)
      · rw [nn 129 (by decide) (by decide)]; exact s3.2.2
      · rw [eq 14 (by decide)]; exact s4
      · rw [nn 131 (by decide) (by decide)]; exact s5
      · rw [nn 132 (by decide) (by decide)]; exact s6
    have e3H : gI H 132 F.length = nI f.2.2 := by rw [← eH, gI_sI_ne (by decide), e3', gI_sI_ne (by decide)]; exact e3
    refine X10_setB I3 (by omega) (by omega) (by omega) e3H (fun h4 I4 st4 => ?_)
    rw [er (by omega)] at I4
    refine Tr.bd (X10_mk I4 (by omega) 128) (fun _ h5 q => ?_)
    obtain ⟨I5, _⟩ := q
    rw [← esn] at I5
    exact Tr.ck (Lo_123 I5.1.1) (X10_bh399 hi hj ⟨tt, b2, I5.stage 2⟩ (by rw [gI_sI, upd_eq]) V2.cv eR)
/-- a bracket, or the text's end -/
theorem X10_bh141 {s : PSy} {R : Nat ⊕ List Nat} {j : Nat} (hn : G.1 ≤ 150) (hi : i ≤ G.1) (hj : j ≤ i) (V : CV (31 * i + 30) i s) (hkn : hk s.2 ≠ 1 ∧ hk s.2 ≠ 2 ∧ hk s.2 ≠ 3) (I : BS h0 G i s h) (eR : R = if i < G.1 then (match cBr i (G.2.1 i) s with
      | Sum.inl e => Sum.inl e
      | Sum.inr q2 => Pq G (i + 1) q2) else if s.2.length = 0 then Sum.inr s.1 else Sum.inl G.1) (hV : ∀ q2, i < G.1 → cBr i (G.2.1 i) s = Sum.inr q2 → PV (i + 1) q2) : Tr (f_X10_behind_141 123 (tb G i) (lo s.2) h) (BhQ h0 G j R) := by
  obtain ⟨l, F⟩ := s
  obtain ⟨Bg, b1, I1⟩ := id I
  obtain ⟨v1, v2, v3, v4, v5⟩ := id V
  dsimp only at v1 v2 v3 v4 v5 b1 I1 hkn eR ⊢
  have L := I1.1.1
  have M := I1.1
  obtain ⟨_, _, _, k91, k40, k63, kn⟩ := lo_is v2
  cases F with
  | nil =>
    refine Tr.pos rfl (Tr.ck (Lo_123 L) ?_)
    have I2 := I1.stage 0
    by_cases d : i < G.1
    · rw [if_pos d] at eR
      have eR : R = Sum.inl i := eR
      rw [tb_in d]
      have hb := (M.2.2.2.2.1 i d).2
      refine Tr.neg (no_m1 (by omega)) ?_
      rw [I2.2.2.2.1]
      exact Tr.ret (Or.inl ⟨i, eR, rfl, by omega, I2.1, I2.2.1⟩)
    · rw [if_neg d] at eR
      have eR : R = Sum.inr l := eR
      rw [tb_out d]
      exact Tr.pos rfl (Tr.ret (Or.inr ⟨rfl, Or.inl ⟨by rw [gI_sI, upd_eq], l, eR, I2.2.2.1.1, v1, by omega, I2.1, I2.2.1⟩⟩))
  | cons f F =>
    have hkn : f.1 ≠ 1 ∧ f.1 ≠ 2 ∧ f.1 ≠ 3 := hkn
    have e236 : R = Sum.inl i → Tr (f_X10_behind_236 123 (tb G i) (lo (f :: F)) 0 h) (BhQ h0 G j R) := fun e => by
      refine Tr.pos rfl (Tr.ck (Lo_123 L) ?_)
      rw [I1.2.2.2.1]
      exact Tr.ret (Or.inl ⟨i, e, rfl, by omega, M, I1.2.1⟩)
    have err : ¬ (i < G.1 ∧ ((G.2.1 i = 41 ∧ f.1 = 4) ∨ (G.2.1 i = 63 ∧ f.1 = 5) ∨ (G.2.1 i = 124 ∧ f.1 = 6) ∨ (G.2.1 i = 93 ∧ f.1 = 7))) → R = Sum.inl i := fun z => by
      by_cases d : i < G.1
      · rw [if_pos d] at eR
        have : cBr i (G.2.1 i) (l, f :: F) = Sum.inl i := by
          show (if G.2.1 i = 41 ∧ f.1 = 4 then _ else if G.2.1 i = 63 ∧ f.1 = 5 then _ else if G.2.1 i = 124 ∧ f.1 = 6 then _ else if G.2.1 i = 93 ∧ f.1 = 7 then _ else _) = _
          rw [if_neg (fun w => z ⟨d, Or.inl w⟩), if_neg (fun w => z ⟨d, Or.inr (Or.inl w)⟩), if_neg (fun w => z ⟨d, Or.inr (Or.inr (Or.inl w))⟩), if_neg (fun w => z ⟨d, Or.inr (Or.inr (Or.inr w))⟩)]
        rw [this] at eR
        exact eR
      · rw [if_neg d, if_neg (by rw [List.length_cons]; omega)] at eR
        rw [eR, show i = G.1 by omega]
    have fit : ∀ c, i < G.1 → G.2.1 i = c → ((c = 41 ∧ f.1 = 4) ∨ (c = 63 ∧ f.1 = 5) ∨ (c = 124 ∧ f.1 = 6) ∨ (c = 93 ∧ f.1 = 7)) → Tr (f_X10_behind_236 123 (tb G i) (lo (f :: F)) 1 h) (BhQ h0 G j R) := fun c d ec hf => by
      rw [if_pos d, ec] at eR
      rw [tb_in d, ec]
      cases hcb : cBr i c (l, f :: F) with
      | inl e =>
        exfalso
        have eB : cBr i c (l, f :: F) = if c = 41 ∧ f.1 = 4 then Sum.inr ((l, F), 3, 0, 0) else if c = 63 ∧ f.1 = 5 then Sum.inr ((l, (6, i, f.2.2) :: F), 0, 0, 0) else if c = 124 ∧ f.1 = 6 then Sum.inr ((l, (7, i, f.2.2) :: F), 0, 0, 0) else if c = 93 ∧ f.1 = 7 then Sum.inr ((l ++ [128], F), 3, 0, 0) else Sum.inl i := rfl
        rw [hcb] at eB
        rcases hf with w | w | w | w
        · rw [if_pos w] at eB; cases eB
        · rw [if_neg (by omega), if_pos w] at eB; cases eB
        · rw [if_neg (by omega), if_neg (by omega), if_pos w] at eB; cases eB
        · rw [if_neg (by omega), if_neg (by omega), if_neg (by omega), if_pos w] at eB; cases eB
      | inr q2 =>
        rw [hcb] at eR
        exact X10_bh236 hn d hj V I hf hcb (hV q2 d (by rw [ec]; exact hcb)) eR
    have bt : ∀ c, c < 128 → (tb G i = nI c ↔ (i < G.1 ∧ G.2.1 i = c)) := fun c hc => by
      by_cases d : i < G.1
      · have hb := (M.2.2.2.2.1 i d).2
        rw [tb_in d, nI_eq (by omega) (by omega)]
        exact ⟨fun z => ⟨d, z⟩, fun z => z.2⟩
      · rw [tb_out d]
        exact ⟨fun z => absurd z.symm (no_m1 (by omega)), fun z => absurd z.1 d⟩
    have n1 : ¬ lo (f :: F) = -1 := fun z => by cases (kn.mp z)
    have test : ∀ c, c < 128 → ∀ x, x = nI c → (∀ w, ((w = 41 ∧ f.1 = 4) ∨ (w = 63 ∧ f.1 = 5) ∨ (w = 124 ∧ f.1 = 6) ∨ (w = 93 ∧ f.1 = 7)) ↔ w = c) → Tr (if tb G i = x then f_X10_behind_236 123 (tb G i) (lo (f :: F)) 1 h else f_X10_behind_236 123 (tb G i) (lo (f :: F)) 0 h) (BhQ h0 G j R) := fun c hc x hx hw => by
      subst hx
      by_cases d : i < G.1 ∧ G.2.1 i = c
      · exact Tr.pos ((bt c hc).mpr d) (fit c d.1 d.2 ((hw c).mpr rfl))
      · exact Tr.neg (fun z => d ((bt c hc).mp z)) (e236 (err (fun z => d ⟨z.1, (hw _).mp z.2⟩)))
    have hf7 := v2.2.2.1
    have hf1 := v2.2.1
    refine Tr.neg n1 ?_
    by_cases c4 : f.1 = 4
    · exact Tr.pos (k40.mpr c4) (test 41 (by decide) _ rfl (fun w => by omega))
    refine Tr.neg (fun z => c4 (k40.mp z)) ?_
    by_cases c5 : f.1 = 5
    · exact Tr.pos (k91.mpr c5) (test 63 (by decide) _ rfl (fun w => by omega))
    refine Tr.neg (fun z => c5 (k91.mp z)) ?_
    by_cases c6 : f.1 = 6
    · exact Tr.pos (k63.mpr c6) (test 124 (by decide) _ rfl (fun w => by omega))
    exact Tr.neg (fun z => c6 (k63.mp z)) (test 93 (by decide) _ rfl (fun w => by omega))
theorem X10_behind {s : PSy} {R : Nat ⊕ List Nat} {j : Nat} (hn : G.1 ≤ 150) (hi : i ≤ G.1) (hj : j ≤ i) (V : CV (31 * i + 30) i s) (h3 : hk s.2 ≠ 3) (I : BS h0 G i s h) (eR : R = if i < G.1 then (match stC i (G.2.1 i) s with
      | Sum.inl e => Sum.inl e
      | Sum.inr q2 => Pq G (i + 1) q2) else pfC G.1 s) : Tr (f_X10_behind 123 h) (BhQ h0 G j R) := by
  obtain ⟨l, F⟩ := s
  obtain ⟨Bg, b1, I1⟩ := id I
  dsimp only at b1 I1 h3
  have L := I1.1.1
  have M := I1.1
  have W1 := V.pair (k := 2) (c := 80) (Or.inr rfl) rfl rfl
  have k1 := hk_seq V h3
  have W2 := W1.pair (k := 1) (c := 64) (Or.inl rfl) rfl rfl
  have k2 := hk_uni W1 k1.1 k1.2
  have hV : ∀ q2, i < G.1 → stC i (G.2.1 i) (l, F) = Sum.inr q2 → PV (i + 1) q2 := fun q2 d e => PV.stC (by omega) V h3 e
  refine Tr.ck (Lo_123 L) ?_
  rw [I1.2.2.2.1]
  refine Tr.be (X10_byteAt M (k := i) (by omega)) ?_
  have bt : ∀ c, c < 128 → (tb G i = nI c ↔ (i < G.1 ∧ G.2.1 i = c)) := fun c hc => by
    by_cases d : i < G.1
    · have hb := (M.2.2.2.2.1 i d).2
      rw [tb_in d, nI_eq (by omega) (by omega)]
      exact ⟨fun z => ⟨d, z⟩, fun z => z.2⟩
    · rw [tb_out d]
      exact ⟨fun z => absurd z.symm (no_m1 (by omega)), fun z => absurd z.1 d⟩
  by_cases c46 : i < G.1 ∧ G.2.1 i = 46
  · have et := (bt 46 (by decide)).mpr c46
    have est : stC i (G.2.1 i) (l, F) = Sum.inr (((cPair 2 80 (l, F)).1, (2, i, i) :: (cPair 2 80 (l, F)).2), 0, 0, 0) := by unfold stC; rw [if_pos c46.2]
    have V2 := hV _ c46.1 est
    rw [if_pos c46.1, est] at eR
    have eR : R = Pq G (i + 1) (((cPair 2 80 (l, F)).1, (2, i, i) :: (cPair 2 80 (l, F)).2), 0, 0, 0) := eR
    rw [et]
    refine Tr.pos rfl (Tr.neg (by decide) (Tr.ck (Lo_123 L) (Tr.bd (X10_joins0 V (by omega) (by omega) h3 I) (fun _ h2 q => ?_))))
    obtain ⟨I2, _⟩ := q
    generalize cPair 2 80 (l, F) = t at I2 W1 k1 V2 eR
    obtain ⟨l2, F2⟩ := t
    obtain ⟨Bg2, b2, I3⟩ := id I2
    have hF2 := W1.2.2.1
    dsimp only at hF2 k1 I3
    have lop := X10_lastOpen I3.1.1 I3.2.2.1 (by omega)
    obtain ⟨_, k46, _⟩ := lo_is W1.2.1
    exact Tr.pos rfl (Tr.ck (Lo_123 I3.1.1) (Tr.be lop (Tr.neg (fun z => k1.1 (k46.mp z)) (Tr.neg (by decide) (X10_bh77 hn c46.1 hj (k := 2) (Or.inr rfl) rfl (by omega) I2 V2 eR)))))
  have n46 : ¬ tb G i = 46 := fun z => c46 ((bt 46 (by decide)).mp z)
  by_cases c43 : i < G.1 ∧ G.2.1 i = 43
  · have et := (bt 43 (by decide)).mpr c43
    have est : stC i (G.2.1 i) (l, F) = Sum.inr (((cPair 1 64 (cPair 2 80 (l, F))).1, (1, i, i) :: (cPair 1 64 (cPair 2 80 (l, F))).2), 0, 0, 0) := by unfold stC; rw [if_neg (fun z => c46 ⟨c43.1, z⟩), if_pos c43.2]
    have V2 := hV _ c43.1 est
    rw [if_pos c43.1, est] at eR
    have eR : R = Pq G (i + 1) (((cPair 1 64 (cPair 2 80 (l, F))).1, (1, i, i) :: (cPair 1 64 (cPair 2 80 (l, F))).2), 0, 0, 0) := eR
    rw [et]
    refine Tr.neg (by decide) (Tr.pos rfl (Tr.pos rfl (Tr.ck (Lo_123 L) (Tr.bd (X10_joins1 V (by omega) (by omega) h3 I) (fun _ h2 q => ?_)))))
    obtain ⟨I2, _⟩ := q
    generalize cPair 1 64 (cPair 2 80 (l, F)) = t at I2 W2 k2 V2 eR
    obtain ⟨l2, F2⟩ := t
    obtain ⟨Bg2, b2, I3⟩ := id I2
    have hF2 := W2.2.2.1
    dsimp only at hF2 k2 I3
    have lop := X10_lastOpen I3.1.1 I3.2.2.1 (by omega)
    obtain ⟨_, _, k43, _⟩ := lo_is W2.2.1
    exact Tr.neg (by decide) (Tr.pos rfl (Tr.ck (Lo_123 I3.1.1) (Tr.be lop (Tr.neg (fun z => k2.1 (k43.mp z)) (X10_bh77 hn c43.1 hj (k := 1) (Or.inl rfl) rfl (by omega) I2 V2 eR)))))
  have n43 : ¬ tb G i = 43 := fun z => c43 ((bt 43 (by decide)).mp z)
  have eno := cPair_no (k := 1) (c := 64) k2.1
  have eR2 : R = match cCond (cPair 1 64 (cPair 2 80 (l, F))) with
      | Sum.inl e => Sum.inl e
      | Sum.inr s4 => if i < G.1 then (match cBr i (G.2.1 i) s4 with
        | Sum.inl e => Sum.inl e
        | Sum.inr q2 => Pq G (i + 1) q2) else if s4.2.length = 0 then Sum.inr s4.1 else Sum.inl G.1 := by
    rw [eR]
    by_cases d : i < G.1
    · rw [if_pos d]
      unfold stC
      rw [if_neg (fun z => c46 ⟨d, z⟩), if_neg (fun z => c43 ⟨d, z⟩), eno]
      cases cCond (cPair 1 64 (cPair 2 80 (l, F))) with
      | inl e => rfl
      | inr s4 => dsimp only; rw [if_pos d]
    · rw [if_neg d]
      unfold pfC
      cases cCond (cPair 1 64 (cPair 2 80 (l, F))) with
      | inl e => rfl
      | inr s4 => dsimp only; rw [if_neg d]
  have hV2 : ∀ s4 q2, i < G.1 → cCond (cPair 1 64 (cPair 2 80 (l, F))) = Sum.inr s4 → cBr i (G.2.1 i) s4 = Sum.inr q2 → PV (i + 1) q2 := fun s4 q2 d e1 e2 => by
    refine hV q2 d ?_
    unfold stC
    rw [if_neg (fun z => c46 ⟨d, z⟩), if_neg (fun z => c43 ⟨d, z⟩), eno, e1]
    exact e2
  refine Tr.neg n46 (Tr.neg n43 (Tr.ck (Lo_123 L) (Tr.bd (X10_joins1 V (by omega) (by omega) h3 I) (fun _ h2 q => ?_))))
  obtain ⟨I2, _⟩ := q
  generalize cPair 1 64 (cPair 2 80 (l, F)) = u at I2 W2 k2 eR2 hV2
  obtain ⟨l2, F2⟩ := u
  obtain ⟨Bg2, b2, I3⟩ := id I2
  obtain ⟨w1, w2, w3, w4, w5⟩ := id W2
  dsimp only at w1 w2 w3 w4 w5 k2 b2 I3
  have L2 := I3.1.1
  have lop := X10_lastOpen L2 I3.2.2.1 (by omega)
  obtain ⟨_, _, _, k91, _⟩ := lo_is w2
  have hBl := sB_len w1
  have hbl := b2.len
  refine Tr.ck (Lo_123 L2) (Tr.be lop ?_)
  by_cases c5 : hk F2 = 5
  · obtain ⟨a0, t, es⟩ := st_one (st := sB l2) (by omega)
    have etp : topP l2 = a0 := by unfold topP; rw [es]; rfl
    rw [es, List.length_cons] at hBl
    obtain ⟨s1, ⟨s2, s2'⟩, s3, s4, s5, s6⟩ := id I3.2.2.1
    rw [es] at s2 s2'
    rw [List.length_cons] at s2
    have ec : cCond (l2, F2) = if topP l2 then Sum.inr (l2, F2) else Sum.inl (stt F2) := by
      cases F2 with
      | nil => exact absurd c5 (by decide : ¬ (0 : Nat) = 5)
      | cons f F2 => exact if_pos (show f.1 = 5 from c5)
    refine Tr.pos (k91.mpr c5) (Tr.ck (Lo_123 L2) (Tr.gp (Lp_123_9 L2) ?_))
    rw [s2, nI_pred]
    refine Tr.ca (La_130 L2 (by omega)) ?_
    rw [nI_clamp (by omega), s2'.1]
    cases a0 with
    | false =>
      rw [ec, etp, if_neg (by decide)] at eR2
      refine Tr.pos rfl (Tr.gp (Lp_123_8 L2) (Tr.ca (La_129 L2 (by omega)) (Tr.ret (Or.inl ⟨stt F2, eR2, ?_, stt_b w2, I3.1, I3.2.1⟩))))
      have e3 := s3.1
      have hlb : Bg2.length = t.length := by omega
      rw [← hlb]
      exact e3
    | true =>
      rw [etp, if_pos rfl] at ec
      rw [ec] at eR2
      exact Tr.neg (by decide) (X10_bh141 hn hi hj W2 k2 I2 eR2 (fun q2 d e => hV2 _ q2 d ec e))
  · have ec : cCond (l2, F2) = Sum.inr (l2, F2) := by
      cases F2 with
      | nil => rfl
      | cons f F2 => exact if_neg c5
    rw [ec] at eR2
    exact Tr.neg (fun z => c5 (k91.mp z)) (X10_bh141 hn hi hj W2 k2 I2 eR2 (fun q2 d e => hV2 _ q2 d ec e))
end REF

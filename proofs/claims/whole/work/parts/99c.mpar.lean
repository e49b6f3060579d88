/-! THE REFERENCE'S PARSER: an atom -/
section REF
variable {h h0 : Hp} {G : St} {l : List Nat} {F : FrS} {B : List Bool} {g : List Nat} {i : Nat}
theorem X10_wn {c a b : Nat} (hc : c < 2 ^ 31) (ha : a < 2 ^ 31) (hb : b < 2 ^ 31) (h : Hp) : f_X10_within (nI c) (nI a) (nI b) h = some (if a ≤ c ∧ c ≤ b then 1 else 0, h) := by
  rw [X10_wi]
  by_cases c1 : c < a
  · rw [if_pos (nI_lt c1 ha), if_neg (by omega)]
  · rw [if_neg (nI_nlt (by omega) hc)]
    by_cases c2 : b < c
    · rw [if_pos (nI_lt c2 hc), if_neg (by omega)]
    · rw [if_neg (nI_nlt (by omega) hb), if_pos (by omega)]
theorem tb_in {k : Nat} (hk : k < G.1) : tb G k = nI (G.2.1 k) := if_pos hk
theorem tb_out {k : Nat} (hk : ¬ k < G.1) : tb G k = -1 := if_neg hk
/-- an atom is read from i on -/
def AtQ (h0 : Hp) (G : St) (i : Nat) (R : Nat ⊕ List Nat) : Int32 → Hp → Prop := fun r h1 => (∃ e, R = Sum.inl e ∧ r = nI e ∧ e < 2 ^ 31 ∧ MI h1 G ∧ Fr mA h0 h1) ∨ ∃ j s, i < j ∧ j ≤ G.1 ∧ CV (31 * j + 30) j s ∧ r = -1 ∧ BS h0 G j s h1 ∧ R = Pq G j (s, 3, 0, 0)
theorem PV.cv {j : Nat} {s : PSy} {a b : Nat} (V : PV j (s, 3, a, b)) : CV (31 * j + 30) j s := by
  rcases V with ⟨_, v⟩ | ⟨z, _⟩
  · exact v
  · exact absurd z (by decide : ¬ (3 : Nat) < 3)
theorem X10_fl111 {c : Nat} {R : Nat ⊕ List Nat} {j : Nat} (hn : G.1 ≤ 150) (hi : i + 3 ≤ G.1) (hj : j ≤ i) (I : MpI h0 G (l ++ [c]) F (sB l) g i h) (hb : BgR F g) (hg : g.length = (sB l).length) (hB : (sB l).length < 160) (ei : i = stt F) (b : Bool) (es : sB (l ++ [c]) = b :: sB l) (V : PV (i + 3) ((l ++ [c], F), 3, 0, 0)) (eR : R = Pq G (i + 3) ((l ++ [c], F), 3, 0, 0)) : Tr (f_X10_field_111 123 123 (nI i) (bi b) h) (AtQ h0 G j R) := by
  refine Tr.ck (Lo_123 I.1.1) (Tr.bd (X10_wt I hB hg b i) (fun _ h1 q => ?_))
  obtain ⟨I1, _⟩ := q
  refine Tr.ck (Lo_123 I1.1.1) ?_
  rw [I1.2.2.2.1, show nI i + (3 : Int32) = nI (i + 3) from nI_add i 3]
  obtain ⟨I2, _⟩ := I1.at (i + 3)
  rw [← es] at I2
  have hbb : BS h0 G (i + 3) (l ++ [c], F) (sI h1 123 11 (nI (i + 3))) := ⟨g, hb, by rw [← ei]; exact I2⟩
  exact Tr.ret (Or.inr ⟨i + 3, _, by omega, hi, V.cv, rfl, hbb, eR⟩)
theorem X10_field {R : Nat ⊕ List Nat} {j c : Nat} (hn : G.1 ≤ 150) (hi : i < G.1) (hj : j ≤ i) (ec : G.2.1 i = c) (h1c : 120 ≤ c) (h2c : c ≤ 122) (I : MpI h0 G l F (sB l) g i h) (hb : BgR F g) (V : PV i ((l, F), 0, 0, 0)) (eR : Pq G i ((l, F), 0, 0, 0) = R) : Tr (f_X10_field 123 (nI c) h) (AtQ h0 G j R) := by
  have M := I.1
  have L := M.1
  have wf := M.2.1.1
  have hi0 : i < 2 ^ 30 := by omega
  have e0 : pst G.2.2.1 i (G.2.1 i) ((l, F), 0, 0, 0) = Sum.inr ((l, F), 1, c - 120, 0) := by
    rw [ec]
    show stA G.2.2.1 i c (l, F) = _
    unfold stA
    rw [if_neg (by omega), if_neg (by omega), if_neg (by omega), if_neg (by omega), if_pos ⟨h1c, h2c⟩]
  have V1 := V.step hi0 wf e0
  rw [Pq_s hi, e0] at eR
  have eR : Pq G (i + 1) ((l, F), 1, c - 120, 0) = R := eR
  have ret : ∀ e, R = Sum.inl e → e ≤ 150 → Tr (some (nI e, h)) (AtQ h0 G j R) := fun e a b => Tr.ret (Or.inl ⟨e, a, rfl, by omega, I.1, I.2.1⟩)
  refine Tr.ck (Lo_123 L) ?_
  rw [I.2.2.2.1, nI_1]
  refine Tr.be (X10_byteAt M (k := i + 1) (by omega)) ?_
  by_cases d1 : i + 1 < G.1
  · rw [tb_in d1]
    have hb1 := (M.2.2.2.2.1 (i + 1) d1).2
    rw [Pq_s d1] at eR
    generalize hc1 : G.2.1 (i + 1) = c1 at eR hb1
    have kc : ∀ k, k < 128 → (nI c1 = nI k ↔ c1 = k) := fun k hk => nI_eq (by omega) (by omega)
    have t30 : ∀ gs, (gs = 2 ∧ c1 = 61) ∨ (gs = 3 ∧ c1 = 58) → Tr (f_X10_field_30 123 (nI c) (nI c1) h) (AtQ h0 G j R) := fun gs hgs => by
      have e1 : pst G.2.2.1 (i + 1) c1 ((l, F), 1, c - 120, 0) = Sum.inr ((l, F), 2, c - 120, gs) := by
        show stS (i + 1) c1 ((l, F), 1, c - 120, 0) = _
        unfold stS
        rcases hgs with ⟨rfl, rfl⟩ | ⟨rfl, rfl⟩
        · rfl
        · rfl
      have V2 := V1.step (by omega) wf e1
      rw [e1] at eR
      have eR : Pq G (i + 2) ((l, F), 2, c - 120, gs) = R := eR
      refine Tr.ck (Lo_123 L) ?_
      rw [I.2.2.2.1, show nI i + (2 : Int32) = nI (i + 2) from nI_add i 2]
      refine Tr.be (X10_byteAt M (k := i + 2) (by omega)) ?_
      by_cases d2 : i + 2 < G.1
      · rw [tb_in d2]
        have hb2 := (M.2.2.2.2.1 (i + 2) d2).2
        rw [Pq_s d2] at eR
        generalize hc2 : G.2.1 (i + 2) = c2 at eR hb2
        have wn : f_X10_within (nI c2) 48 51 h = some (if 48 ≤ c2 ∧ c2 ≤ 51 then 1 else 0, h) := X10_wn (a := 48) (b := 51) (by omega) (by decide) (by decide) h
        refine Tr.be wn ?_
        by_cases d3 : 48 ≤ c2 ∧ c2 ≤ 51
        · rw [if_pos d3]
          have e2 : pst G.2.2.1 (i + 2) c2 ((l, F), 2, c - 120, gs) = Sum.inr ((l ++ [16 * gs + 4 * (c - 120) + (c2 - 48)], F), 3, 0, 0) := by
            show stD (i + 2) c2 ((l, F), 2, c - 120, gs) = _
            unfold stD
            rw [if_pos (by omega)]
          have V3 := V2.step (by omega) wf e2
          rw [e2] at eR
          have eR : Pq G (i + 3) ((l ++ [16 * gs + 4 * (c - 120) + (c2 - 48)], F), 3, 0, 0) = R := eR
          rcases V with ⟨z, _⟩ | ⟨_, v1, v2, v3, v4, v5, v6, _⟩
          · exact absurd z (by decide : ¬ (0 : Nat) = 3)
          dsimp only at v1 v2 v3 v4 v5 v6
          have hBl := sB_len v1
          have hgl := hb.len
          have esg : ∀ s1, s1 = (if gs = 2 then (10 : Int32) else 30) → ((s1 + ((4 : Int32) * (nI c - (120 : Int32)))) + nI c2) - (48 : Int32) = nI (sg (16 * gs + 4 * (c - 120) + (c2 - 48))) := fun s1 es1 => by
            obtain ⟨u, hu⟩ : ∃ u, u = c - 120 := ⟨_, rfl⟩
            obtain ⟨w, hw⟩ : ∃ w, c2 = 48 + w := ⟨c2 - 48, by omega⟩
            have ecu : nI c - (120 : Int32) = nI u := by rw [hu]; exact pk_sub (b := 120) (by omega)
            rw [ecu, ← hu, hw, Nat.add_sub_cancel_left, show (4 : Int32) = nI 4 from rfl, pk_mul]
            rcases hgs with ⟨rfl, _⟩ | ⟨rfl, _⟩
            · rw [if_pos rfl] at es1
              rw [es1, show (10 : Int32) = nI 10 from rfl, nI_add, nI_add, show (48 : Int32) = nI 48 from rfl, pk_sub (by omega)]
              unfold sg
              rw [if_neg (by omega), if_pos (by omega)]
              congr 1; omega
            · rw [if_neg (by decide)] at es1
              rw [es1, show (30 : Int32) = nI 30 from rfl, nI_add, nI_add, show (48 : Int32) = nI 48 from rfl, pk_sub (by omega)]
              unfold sg
              rw [if_neg (by omega), if_neg (by omega), if_pos (by omega)]
              congr 1; omega
          have hcode : 16 * gs + 4 * (c - 120) + (c2 - 48) < 64 := by rcases hgs with ⟨rfl, _⟩ | ⟨rfl, _⟩ <;> omega
          have esb : ∀ b, b = decide (gs = 2) → sB (l ++ [16 * gs + 4 * (c - 120) + (c2 - 48)]) = b :: sB l := fun b eb => by
            have ar0 : ar (16 * gs + 4 * (c - 120) + (c2 - 48)) = 0 := by unfold ar; rw [if_pos hcode]
            rw [sB_snoc, ar0]
            have : opB (16 * gs + 4 * (c - 120) + (c2 - 48)) ((sB l).getD 0 false) ((sB l).getD 1 false) ((sB l).getD 2 false) = b := by
              unfold opB
              rcases hgs with ⟨rfl, _⟩ | ⟨rfl, _⟩
              · rw [if_pos (by omega), eb]; rfl
              · rw [if_neg (by omega), if_pos (by omega), eb]; rfl
            rw [this]; rfl
          have t71 : ∀ s1, s1 = (if gs = 2 then (10 : Int32) else 30) → Tr (f_X10_field_71 123 (nI c) (nI c1) 123 s1 h) (AtQ h0 G j R) := fun s1 es1 => by
            refine Tr.ck (Lo_123 L) ?_
            rw [I.2.2.2.1, show nI i + (2 : Int32) = nI (i + 2) from nI_add i 2]
            refine Tr.be (X10_byteAt M (k := i + 2) (by omega)) (Tr.ck (Lo_123 L) ?_)
            rw [tb_in d2, hc2, esg s1 es1]
            refine Tr.bd (X10_mk I (by omega) _) (fun _ h4 q => ?_)
            obtain ⟨I4, _⟩ := q
            refine Tr.ck (Lo_123 I4.1.1) ?_
            rw [I4.2.2.2.1]
            have go := fun b eb => X10_fl111 (R := R) (j := j) hn (by omega) hj I4 hb (by omega) (by omega) (v6 rfl) b (esb b eb) V3 eR.symm
            rcases hgs with ⟨rfl, rfl⟩ | ⟨rfl, rfl⟩
            · exact Tr.pos rfl (go true rfl)
            · exact Tr.neg (by decide) (go false rfl)
          refine Tr.neg (by decide) ?_
          rcases hgs with ⟨rfl, rfl⟩ | ⟨rfl, rfl⟩
          · exact Tr.pos rfl (t71 10 rfl)
          · exact Tr.neg (by decide) (t71 30 rfl)
        · rw [if_neg d3]
          have e2 : pst G.2.2.1 (i + 2) c2 ((l, F), 2, c - 120, gs) = Sum.inl (i + 2) := by
            show stD (i + 2) c2 ((l, F), 2, c - 120, gs) = _
            unfold stD
            rw [if_neg (by omega)]
          rw [e2] at eR
          refine Tr.pos rfl (Tr.ck (Lo_123 L) ?_)
          rw [I.2.2.2.1, show nI i + (2 : Int32) = nI (i + 2) from nI_add i 2]
          exact ret (i + 2) eR.symm (by omega)
      · have en : i + 2 = G.1 := by omega
        rw [tb_out d2]
        rw [en, Pq_n] at eR
        refine Tr.be (X10_wi (-1) 48 51 h) (Tr.pos (by decide) (Tr.ck (Lo_123 L) ?_))
        rw [I.2.2.2.1, show nI i + (2 : Int32) = nI (i + 2) from nI_add i 2]
        exact ret (i + 2) (by rw [← eR, en]; rfl) (by omega)
    by_cases d3 : c1 = 61
    · exact Tr.pos (by rw [d3]; rfl) (t30 2 (Or.inl ⟨rfl, d3⟩))
    · refine Tr.neg (fun z => d3 ((kc 61 (by decide)).mp z)) ?_
      by_cases d4 : c1 = 58
      · exact Tr.pos (by rw [d4]; rfl) (t30 3 (Or.inr ⟨rfl, d4⟩))
      · have e1 : pst G.2.2.1 (i + 1) c1 ((l, F), 1, c - 120, 0) = Sum.inl (i + 1) := by
          show stS (i + 1) c1 ((l, F), 1, c - 120, 0) = _
          unfold stS
          rw [if_neg d3, if_neg d4]
        rw [e1] at eR
        refine Tr.neg (fun z => d4 ((kc 58 (by decide)).mp z)) (Tr.ck (Lo_123 L) ?_)
        rw [I.2.2.2.1, nI_1]
        exact ret (i + 1) eR.symm (by omega)
  · have en : i + 1 = G.1 := by omega
    rw [tb_out d1]
    rw [en, Pq_n] at eR
    refine Tr.neg (by decide) (Tr.neg (by decide) (Tr.ck (Lo_123 L) ?_))
    rw [I.2.2.2.1, nI_1]
    exact ret (i + 1) (by rw [← eR, en]; rfl) (by omega)
theorem X10_at175 {m : List Nat} {R : Nat ⊕ List Nat} {j : Nat} (hi : i < G.1) (hj : j ≤ i) {b : Bool} (I : MpI h0 G (l ++ m) F (b :: sB l) (i :: g) i h) (hb : BgR F g) (ei : i = stt F) (es : sB (l ++ m) = b :: sB l) (V : PV (i + 1) ((l ++ m, F), 3, 0, 0)) (eR : R = Pq G (i + 1) ((l ++ m, F), 3, 0, 0)) : Tr (f_X10_atom_175 123 h) (AtQ h0 G j R) := by
  refine Tr.ck (Lo_123 I.1.1) ?_
  rw [I.2.2.2.1, nI_1]
  obtain ⟨I2, _⟩ := I.at (i + 1)
  rw [← es] at I2
  have hbb : BS h0 G (i + 1) (l ++ m, F) (sI h 123 11 (nI (i + 1))) := ⟨g, hb, by rw [← ei]; exact I2⟩
  exact Tr.ret (Or.inr ⟨i + 1, _, by omega, by omega, V.cv, rfl, hbb, eR⟩)
theorem X10_atom (hn : G.1 ≤ 150) (hi : i ≤ G.1) (V : PV i ((l, F), 0, 0, 0)) (I : MpI h0 G l F (sB l) g i h) (hb : BgR F g) : Tr (f_X10_atom 123 h) (AtQ h0 G i (Pq G i ((l, F), 0, 0, 0))) := by
  generalize hR : Pq G i ((l, F), 0, 0, 0) = R
  refine Tr.loop (I := fun m (h1 : Hp) => ∃ j F Bg, m = G.1 - j ∧ i ≤ j ∧ j ≤ G.1 ∧ PV j ((l, F), 0, 0, 0) ∧ BgR F Bg ∧ MpI h0 G l F (sB l) Bg j h1 ∧ Pq G j ((l, F), 0, 0, 0) = R) ?_ 5000 (G.1 - i) h ⟨i, F, g, rfl, Nat.le_refl _, hi, V, hb, I, hR⟩ (by omega)
  intro m h1 k hI hk'
  obtain ⟨j, F, Bg, em, hij, hj, V, hb, I, eR⟩ := hI
  subst em
  have M := I.1
  have L := M.1
  have wf := M.2.1.1
  have bt := X10_byteAt M (k := j) (by omega)
  refine Tr.ck (Lo_123 L) ?_
  rw [I.2.2.2.1]
  refine Tr.be bt ?_
  by_cases d : j < G.1
  · have hbj := (M.2.2.2.2.1 j d).2
    rw [tb_in d] at bt ⊢
    rw [Pq_s d] at eR
    generalize hc : G.2.1 j = c at eR hbj bt
    have kc : ∀ k, k < 128 → (nI c = nI k ↔ c = k) := fun k hk => nI_eq (by omega) (by omega)
    rcases id V with ⟨z, _⟩ | ⟨_, v1, v2, v3, v4, v5, v6, _⟩
    · exact absurd z (by decide : ¬ (0 : Nat) = 3)
    dsimp only at v1 v2 v3 v4 v5 v6
    have hBl := sB_len v1
    have hgl := hb.len
    have ea : pst G.2.2.1 j c ((l, F), 0, 0, 0) = stA G.2.2.1 j c (l, F) := rfl
    rw [ea] at eR
    have stp : ∀ q2, stA G.2.2.1 j c (l, F) = Sum.inr q2 → PV (j + 1) q2 ∧ Pq G (j + 1) q2 = R := fun q2 e => by
      rw [e] at eR
      exact ⟨V.step (by omega) wf e, eR⟩
    have opn : ∀ k3, (k3 = 3 ∨ k3 = 4 ∨ k3 = 5) → c = ch k3 → stA G.2.2.1 j c (l, F) = Sum.inr ((l, (k3, j, j) :: F), 0, 0, 0) → Tr (f_X10_atom_39 k 123 h1) (AtQ h0 G i R) := fun k3 hk3 ek e => by
      obtain ⟨V2, eR2⟩ := stp _ e
      refine Tr.ck (Lo_123 L) ?_
      rw [I.2.2.2.1]
      refine Tr.be bt (Tr.ck (Lo_123 L) ?_)
      rw [ek]
      refine Tr.bd (X10_pu I (by omega) k3 j) (fun _ h2 q => ?_)
      obtain ⟨I2, _⟩ := q
      refine Tr.ck (Lo_123 I2.1.1) ?_
      rw [I2.2.2.2.1, nI_1]
      obtain ⟨I3, _⟩ := I2.at (j + 1)
      have b2 : BgR ((k3, j, j) :: F) Bg := by
        unfold BgR
        rw [if_neg (by omega), if_pos (by omega)]
        exact hb
      exact hk' (G.1 - (j + 1)) _ (by omega) ⟨j + 1, _, Bg, rfl, by omega, by omega, V2, b2, I3, eR2⟩
    by_cases c1 : c = 33
    · exact Tr.pos (by rw [c1]; rfl) (opn 3 (by omega) c1 (if_pos c1))
    refine Tr.neg (fun z => c1 ((kc 33 (by decide)).mp z)) (Tr.ck (Lo_123 L) ?_)
    rw [I.2.2.2.1]
    refine Tr.be bt ?_
    by_cases c2 : c = 40
    · exact Tr.pos (by rw [c2]; rfl) (opn 4 (by omega) c2 (by unfold stA; rw [if_neg c1, if_pos c2]))
    refine Tr.neg (fun z => c2 ((kc 40 (by decide)).mp z)) (Tr.ck (Lo_123 L) ?_)
    rw [I.2.2.2.1]
    refine Tr.be bt ?_
    by_cases c3 : c = 91
    · exact Tr.pos (by rw [c3]; rfl) (opn 5 (by omega) c3 (by unfold stA; rw [if_neg c1, if_neg c2, if_pos c3]))
    refine Tr.neg (fun z => c3 ((kc 91 (by decide)).mp z)) (Tr.ck (Lo_123 L) ?_)
    rw [I.2.2.2.1]
    refine Tr.be bt ?_
    have w1 : f_X10_within (nI c) 120 122 h1 = some (if 120 ≤ c ∧ c ≤ 122 then 1 else 0, h1) := X10_wn (a := 120) (b := 122) (by omega) (by decide) (by decide) h1
    refine Tr.be w1 ?_
    by_cases c4 : 120 ≤ c ∧ c ≤ 122
    · rw [if_pos c4]
      have eR3 : Pq G j ((l, F), 0, 0, 0) = R := by rw [Pq_s d, hc, ea]; exact eR
      exact Tr.neg (by decide) (Tr.ck (Lo_123 L) (Tr.bd (X10_field hn d hij hc c4.1 c4.2 I hb V eR3) (fun r h2 q => Tr.ret q)))
    rw [if_neg c4]
    refine Tr.pos rfl ?_
    have leaf : ∀ kd, c = 48 + kd → kd < 2 → Tr (f_X10_atom_102 123 (nI c) h1) (AtQ h0 G i R) := fun kd e hk => by
      have e1 : stA G.2.2.1 j c (l, F) = Sum.inr ((l ++ [16 * kd], F), 3, 0, 0) := by
        unfold stA
        rw [if_neg c1, if_neg c2, if_neg c3, if_pos (by omega), show c - 48 = kd by omega]
      obtain ⟨V2, eR2⟩ := stp _ e1
      have esg : nI c - (48 : Int32) = nI (sg (16 * kd)) := by
        rw [e, show (48 : Int32) = nI 48 from rfl, pk_sub (by omega), Nat.add_sub_cancel_left]
        rcases (by omega : kd = 0 ∨ kd = 1) with rfl | rfl <;> rfl
      have esb : sB (l ++ [16 * kd]) = true :: sB l := by
        rw [sB_snoc]
        rcases (by omega : kd = 0 ∨ kd = 1) with rfl | rfl <;> rfl
      refine Tr.ck (Lo_123 L) ?_
      rw [esg]
      refine Tr.bd (X10_mk I (by omega) _) (fun _ h2 q => ?_)
      obtain ⟨I2, _⟩ := q
      refine Tr.ck (Lo_123 I2.1.1) ?_
      rw [I2.2.2.2.1]
      refine Tr.bd (X10_wt I2 (by omega) (by omega) true j) (fun _ h3 q => ?_)
      exact X10_at175 d hij q.1 hb (v6 rfl) esb V2 eR2.symm
    by_cases c5 : c = 48
    · exact Tr.pos (by rw [c5]; rfl) (leaf 0 (by omega) (by decide))
    refine Tr.neg (fun z => c5 ((kc 48 (by decide)).mp z)) ?_
    by_cases c6 : c = 49
    · exact Tr.pos (by rw [c6]; rfl) (leaf 1 (by omega) (by decide))
    refine Tr.neg (fun z => c6 ((kc 49 (by decide)).mp z)) ?_
    have w2 : f_X10_within (nI c) 112 115 h1 = some (if 112 ≤ c ∧ c ≤ 115 then 1 else 0, h1) := X10_wn (a := 112) (b := 115) (by omega) (by decide) (by decide) h1
    refine Tr.be w2 ?_
    by_cases c7 : 112 ≤ c ∧ c ≤ 115
    · rw [if_pos c7]
      obtain ⟨s, hs, es⟩ : ∃ s, s < 4 ∧ c = 112 + s := ⟨c - 112, by omega, by omega⟩
      have e1 : stA G.2.2.1 j c (l, F) = Sum.inr ((l ++ G.2.2.1 s, F), 3, 0, 0) := by
        unfold stA
        rw [if_neg c1, if_neg c2, if_neg c3, if_neg (by omega), if_neg c4, if_pos c7, show c - 112 = s by omega]
      obtain ⟨V2, eR2⟩ := stp _ e1
      have ecs : nI c - (112 : Int32) = nI s := by rw [es, show (112 : Int32) = nI 112 from rfl, pk_sub (by omega), Nat.add_sub_cancel_left]
      have W := wf s hs
      have esb : sB (l ++ G.2.2.1 s) = prd (G.2.2.1 s) :: sB l := by rw [sB_app W.1, sB_one W.pre]; rfl
      refine Tr.neg (by decide) (Tr.ck (Lo_123 L) ?_)
      rw [ecs]
      refine Tr.bd (X10_cp I (by omega) hs) (fun _ h2 q => ?_)
      obtain ⟨I2, _⟩ := q
      have L2 := I2.1.1
      refine Tr.ck (Lo_123 L2) (Tr.gp (Lp_123_15 L2) (Tr.ca (La_133 L2 hs) ?_))
      rw [nI_clamp (by omega), I2.2.2.2.2 s hs, I2.2.2.2.1]
      have go : ∀ b, b = prd (G.2.2.1 s) → Tr (f_X10_atom_164 123 123 (nI j) (bi b) h2) (AtQ h0 G i R) := fun b eb => by
        refine Tr.ck (Lo_123 L2) (Tr.bd (X10_wt I2 (by omega) (by omega) b j) (fun _ h3 q => ?_))
        exact X10_at175 d hij q.1 hb (v6 rfl) (by rw [eb]; exact esb) V2 eR2.symm
      cases hp : prd (G.2.2.1 s) with
      | false => exact Tr.neg (by decide) (go false hp.symm)
      | true => exact Tr.pos rfl (go true hp.symm)
    · rw [if_neg c7]
      have e1 : stA G.2.2.1 j c (l, F) = Sum.inl j := by
        unfold stA
        rw [if_neg c1, if_neg c2, if_neg c3, if_neg (by omega), if_neg c4, if_neg c7]
      rw [e1] at eR
      refine Tr.pos rfl (Tr.ck (Lo_123 L) ?_)
      rw [I.2.2.2.1]
      exact Tr.ret (Or.inl ⟨j, eR.symm, rfl, by omega, M, I.2.1⟩)
  · have en : j = G.1 := by omega
    rw [tb_out d] at bt ⊢
    rw [en, Pq_n] at eR
    refine Tr.neg (by decide) (Tr.ck (Lo_123 L) ?_)
    rw [I.2.2.2.1]
    refine Tr.be bt (Tr.neg (by decide) (Tr.ck (Lo_123 L) ?_))
    rw [I.2.2.2.1]
    refine Tr.be bt (Tr.neg (by decide) (Tr.ck (Lo_123 L) ?_))
    rw [I.2.2.2.1]
    refine Tr.be bt (Tr.be (X10_wi (-1) 120 122 h1) (Tr.pos (by decide) (Tr.neg (by decide) (Tr.neg (by decide) (Tr.be (X10_wi (-1) 112 115 h1) (Tr.pos (by decide) (Tr.ck (Lo_123 L) ?_)))))))
    rw [I.2.2.2.1]
    exact Tr.ret (Or.inl ⟨j, by rw [← eR, en]; rfl, rfl, by omega, M, I.2.1⟩)
end REF

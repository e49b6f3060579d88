/-! THE CLASS'S HISTORY: what has been replaced, oldest first: the slot and its policy -/
theorem Fr.sP6 {A : Nat → Prop} {h : Hp} {k : Nat} {x : Option Nat} (ha : A 6) : Fr A h (sP h 6 k x) := ⟨rfl, rfl, rfl, fun a q => gP_sP_ne (by
  rcases q with q | q
  · exact q
  · exact fun e => q (by rw [e]; exact ha)), fun _ _ => ⟨rfl, rfl⟩, fun _ => rfl⟩
def HL : List Nat := [7, 10, 13, 16, 19]
theorem HL_PA : ∀ p ∈ HL, p ∈ PAl ∧ 7 ≤ p ∧ p ≤ 19 := by decide
def HiP (h : Hp) (Hs : List (Nat × List Nat)) (pj : Nat → Nat) : Prop := (∀ j, j < 5 → gP h 6 j = some (pj j) ∧ pj j ∈ HL) ∧ (∀ i j, i < 5 → j < 5 → pj i = pj j → i = j) ∧ Hs.length ≤ 5 ∧ ∀ j e, Hs[j]? = some e → gI h 5 j = nI e.1 ∧ e.1 < 4 ∧ PolI h (pj j) e.2 (prd e.2) ∧ Wf e.2
def HiOK (h : Hp) (Hs : List (Nat × List Nat)) : Prop := gI h 4 2 = nI Hs.length ∧ ∃ pj, HiP h Hs pj
def hiR : Nat → Prop := fun a => 4 ≤ a ∧ a ≤ 21
theorem HiP.fr {A : Nat → Prop} {h h1 : Hp} {Hs : List (Nat × List Nat)} {pj : Nat → Nat} (G : HiP h Hs pj) (F : Fr A h h1) (hA : ∀ a, hiR a → ¬ A a) : HiP h1 Hs pj := by
  refine ⟨fun j hj => ?_, G.2.1, G.2.2.1, fun j e hj => ?_⟩
  · rw [F.2.2.2.1 6 (Or.inr (hA 6 ⟨by decide, by decide⟩))]; exact G.1 j hj
  · obtain ⟨g1, g2, g3, g4⟩ := G.2.2.2 j e hj
    have hlt := (List.getElem?_eq_some_iff.mp hj).1
    have h5 := G.2.2.1
    rw [F.I (hA 5 ⟨by decide, by decide⟩)]
    refine ⟨g1, g2, ?_, g4⟩
    have hp := HL_PA _ (G.1 j (by omega)).2
    exact g3.fr F (hA _ ⟨by omega, by omega⟩) (hA _ ⟨by omega, by omega⟩) (hA _ ⟨by omega, by omega⟩)
theorem HiOK.fr {A : Nat → Prop} {h h1 : Hp} {Hs : List (Nat × List Nat)} (G : HiOK h Hs) (F : Fr A h h1) (hA : ∀ a, hiR a → ¬ A a) : HiOK h1 Hs := by
  obtain ⟨g1, pj, g3⟩ := G
  exact ⟨by rw [F.I (hA 4 ⟨by decide, by decide⟩)]; exact g1, pj, g3.fr F hA⟩
section X2
variable {h : Hp} {Hs : List (Nat × List Nat)} {pj : Nat → Nat}
theorem X2_savedCount (L : Lay h) (G : HiOK h Hs) : f_X2_savedCount 4 h = some (nI Hs.length, h) := Tr.of_eq (Tr.ck (Lo_4 L) (Tr.ret ⟨G.1, rfl⟩))
theorem X2_dropOldest (L : Lay h) (c : gI h 4 2 = nI Hs.length) (G : HiP h Hs pj) (h5 : Hs.length = 5) : Tr (f_X2_dropOldest 4 h) (fun _ h1 => HiOK h1 Hs.tail ∧ Fr hiR h h1) := by
  refine Tr.ck (Lo_4 L) (Tr.gp (Lp_4_1 L) (Tr.ca (La_6 (j := 0) L (by decide)) (Tr.gp (G.1 0 (by decide)).1 ?_)))
  have h40 : ∀ x : Int32, x = nI 4 → x.toNatClampNeg = 4 := fun x e => by rw [e]; rfl
  refine Tr.up (N := 5) (J := fun i x => x.1 = nI i ∧ 1 ≤ i ∧ Fr (fun a => a = 5 ∨ a = 6) h x.2 ∧ (∀ j, gI x.2 5 j = if j + 1 < i then gI h 5 (j + 1) else gI h 5 j) ∧ ∀ j, j < 5 → gP x.2 6 j = some (if j + 1 < i then pj (j + 1) else pj j)) ?_ ?_ (p := 1) ⟨rfl, Nat.le_refl _, Fr.rf, fun j => by rw [if_neg (by omega)], fun j hj => by rw [if_neg (by omega)]; exact (G.1 j hj).1⟩ (by decide) (by omega)
  · intro i x kk hi hJ hk'
    obtain ⟨x1, h1⟩ := x
    obtain ⟨e, i1, F, B, Q⟩ := hJ
    dsimp only at e F B Q
    subst e
    dsimp only
    have L1 := F.lay L
    have e1 : nI i - 1 = nI (i - 1) := pk_sub i1
    rw [show f_X2_dropOldest_9 = f_X2_dropOldest_9 from rfl]
    refine Tr.neg (nI_ge (b := 5) hi (by decide)) (Tr.ck (Lo_4 L1) (Tr.gp (Lp_4_0 L1) (Tr.gp (Lp_4_0 L1) (Tr.ca (La_5 L1 hi) ?_))))
    rw [e1]
    refine Tr.ca (La_5 L1 (by omega)) (Tr.gp (Lp_4_1 L1.sI) (Tr.gp (Lp_4_1 L1.sI) (Tr.ca (La_6 L1.sI hi) ?_)))
    rw [nI_clamp (by omega), nI_clamp (by omega)]
    have hb := Q i hi
    rw [if_neg (by omega)] at hb
    have hpi := HL_PA _ (G.1 i hi).2
    refine Tr.gp (show gP (sI h1 5 (i - 1) (gI h1 5 i)) 6 i = some (pj i) from hb) (Tr.ck (Lpo L1.sI hpi.1) (Tr.ca (La_6 L1.sI (by omega)) (Tr.nmx (hk' _ ⟨nI_1 i, by omega, ?_, fun j => ?_, fun j hj => ?_⟩))))
    · exact (F.tr (Fr.sI (Or.inl rfl))).tr (Fr.sP6 (Or.inr rfl))
    · dsimp only
      rw [gI_sP, gI_sI]
      by_cases e : j = i - 1
      · subst e
        rw [upd_eq, B i, if_neg (by omega), if_pos (by omega), show i - 1 + 1 = i by omega]
      · rw [upd_ne e, B j]
        by_cases c2 : j + 1 < i
        · rw [if_pos c2, if_pos (by omega)]
        · rw [if_neg c2, if_neg (by omega)]
    · dsimp only
      rw [gP_sP]
      by_cases e : j = i - 1
      · subst e
        rw [upd_eq, if_pos (by omega), show i - 1 + 1 = i by omega]
      · rw [upd_ne e]
        show gP h1 6 j = _
        rw [Q j hj]
        by_cases c2 : j + 1 < i
        · rw [if_pos c2, if_pos (by omega)]
        · rw [if_neg c2, if_neg (by omega)]
  · intro x kk hJ
    obtain ⟨x1, h1⟩ := x
    obtain ⟨e, i1, F, B, Q⟩ := hJ
    dsimp only at e F B Q
    subst e
    dsimp only
    have L1 := F.lay L
    have hp0 := HL_PA _ (G.1 0 (by decide)).2
    refine Tr.pos (nI_le (b := 5) (Nat.le_refl _) (by decide)) (Tr.ck (Lo_4 L1) (Tr.gp (Lp_4_1 L1) (Tr.ck (Lpo L1 hp0.1) (Tr.ca (La_6 (j := 4) L1 (by decide)) (Tr.nm (fun h2 e2 => Tr.ret ?_))))))
    rw [h40 4 rfl, gI_sP, F.I (by decide), c, h5] at e2
    have e3 : nI 5 - 1 = nI 4 := by decide
    rw [e3] at e2
    subst e2
    have ht : Hs.tail.length = 4 := by rw [List.length_tail, h5]
    have hg : ∀ j, Hs.tail[j]? = Hs[j + 1]? := fun j => by cases Hs with
      | nil => rfl
      | cons a t => rfl
    have FF : Fr (fun a => a = 4 ∨ a = 5 ∨ a = 6) h (sI (sP h1 6 4 (some (pj 0))) 4 2 (nI 4)) := ((F.wk (fun a x => by omega)).tr (Fr.sP6 (Or.inr (Or.inr rfl)))).tr (Fr.sI (Or.inl rfl))
    refine ⟨⟨by rw [gI_sI, upd_eq, ht], fun j => if j < 4 then pj (j + 1) else pj 0, ⟨fun j hj => ?_, fun i j hi hj e => ?_, by omega, fun j e hj => ?_⟩⟩, FF.wk (fun a x => by unfold hiR; omega)⟩
    · show gP (sP h1 6 4 (some (pj 0))) 6 j = _ ∧ _
      rw [gP_sP]
      by_cases c4 : j = 4
      · subst c4
        rw [upd_eq]
        exact ⟨rfl, (G.1 0 (by decide)).2⟩
      · rw [upd_ne c4, Q j hj, if_pos (by omega)]
        dsimp only
        rw [if_pos (by omega)]
        exact ⟨rfl, (G.1 (j + 1) (by omega)).2⟩
    · dsimp only at e
      by_cases c1 : i < 4
      · by_cases c2 : j < 4
        · rw [if_pos c1, if_pos c2] at e
          have := G.2.1 _ _ (by omega) (by omega) e; omega
        · rw [if_pos c1, if_neg c2] at e
          have := G.2.1 _ _ (by omega) (by omega) e; omega
      · by_cases c2 : j < 4
        · rw [if_neg c1, if_pos c2] at e
          have := G.2.1 _ _ (by omega) (by omega) e; omega
        · omega
    · have hlt := (List.getElem?_eq_some_iff.mp hj).1
      rw [hg] at hj
      obtain ⟨g1, g2, g3, g4⟩ := G.2.2.2 (j + 1) e hj
      have hp := HL_PA _ (G.1 (j + 1) (by omega)).2
      refine ⟨?_, g2, ?_, g4⟩
      · rw [gI_sI_ne (by decide), gI_sP, B j, if_pos (by omega)]; exact g1
      · dsimp only
        rw [if_pos (by omega)]
        exact g3.fr FF (by omega) (by omega) (by omega)
def hSave (Hs : List (Nat × List Nat)) (s : Nat) (l : List Nat) : List (Nat × List Nat) := (if Hs.length < 5 then Hs else Hs.tail) ++ [(s, l)]
theorem X2_save12 (L : Lay h) (c : gI h 4 2 = nI Hs.length) (G : HiP h Hs pj) (hl : Hs.length < 5) {s q : Nat} {l : List Nat} (hs : s < 4) (hq : PA q) (hq2 : 22 ≤ q) (Q : PolI h q l (prd l)) (W : Wf l) : Tr (f_X2_save_12 4 (nI s) q h) (fun _ h1 => HiOK h1 (Hs ++ [(s, l)]) ∧ Fr hiR h h1) := by
  have hp := HL_PA _ (G.1 Hs.length hl).2
  have hPA : PA (pj Hs.length) := hp.1
  refine Tr.ck (Lo_4 L) ?_
  rw [c]
  refine Tr.neg (nI_pos (by omega)) (Tr.neg (nI_ge (b := 5) hl (by decide)) (Tr.gp (Lp_4_0 L) (Tr.ca (La_5 L hl) (Tr.gp (Lp_4_1 L.sI) ?_))))
  rw [nI_clamp (by omega)]
  have F1 : Fr (fun a => a = 5) h (sI h 5 Hs.length (nI s)) := Fr.sI rfl
  have L1 := F1.lay L
  have c1 : gI (sI h 5 Hs.length (nI s)) 4 2 = nI Hs.length := by rw [gI_sI_ne (by decide)]; exact c
  have g5 : gI (sI h 5 Hs.length (nI s)) 5 = va_up (gI h 5) Hs.length (nI s) := gI_sI
  have gp1 : gP (sI h 5 Hs.length (nI s)) 6 Hs.length = some (pj Hs.length) := (G.1 _ hl).1
  have Q1 := Q.fr F1 (by omega) (by omega) (by omega)
  generalize sI h 5 Hs.length (nI s) = h1 at F1 L1 c1 g5 gp1 Q1 ⊢
  rw [c1]
  refine Tr.ca (La_6 L1 hl) ?_
  rw [nI_clamp (by omega)]
  have sub : ∀ a, pR (pj Hs.length) a → hiR a := fun a x => by unfold pR at x; unfold hiR; omega
  have out : ∀ a, 22 ≤ a → ¬ pR (pj Hs.length) a := fun a x z => by unfold pR at z; omega
  have out4 : ¬ pR (pj Hs.length) 4 := fun z => by unfold pR at z; omega
  have out5 : ¬ pR (pj Hs.length) 5 := fun z => by unfold pR at z; omega
  have out6 : ¬ pR (pj Hs.length) 6 := fun z => by unfold pR at z; omega
  refine Tr.gp gp1 (Tr.ck (Lpo L1 hPA) (Tr.bd (X4_start L1 hPA) (fun _ h2 z => ?_)))
  obtain ⟨P2, F2⟩ := z
  have L2 := F2.lay L1
  have c2 : gI h2 4 2 = nI Hs.length := by rw [F2.I out4]; exact c1
  have gp2 : gP h2 6 Hs.length = some (pj Hs.length) := by rw [F2.2.2.2.1 6 (Or.inr out6)]; exact gp1
  have Q2 := Q1.fr F2 (out _ hq2) (out _ (by omega)) (out _ (by omega))
  refine Tr.ck (Lo_4 L2) (Tr.gp (Lp_4_1 L2) ?_)
  rw [c2]
  refine Tr.ca (La_6 L2 hl) ?_
  rw [nI_clamp (by omega)]
  refine Tr.gp gp2 (Tr.ck (Lpo L2 hPA) (Tr.bd (X4_addAll L2 hPA hq (by omega) P2 Q2 (by simp) W.2.2.1 W.1) (fun _ h3 z => ?_)))
  obtain ⟨P3, F3⟩ := z
  rw [List.nil_append] at P3
  have L3 := F3.lay L2
  have c3 : gI h3 4 2 = nI Hs.length := by rw [F3.I out4]; exact c2
  have gp3 : gP h3 6 Hs.length = some (pj Hs.length) := by rw [F3.2.2.2.1 6 (Or.inr out6)]; exact gp2
  have Q3 := Q2.fr F3 (out _ hq2) (out _ (by omega)) (out _ (by omega))
  refine Tr.ck (Lo_4 L3) (Tr.gp (Lp_4_1 L3) ?_)
  rw [c3]
  refine Tr.ca (La_6 L3 hl) ?_
  rw [nI_clamp (by omega)]
  refine Tr.gp gp3 (Tr.ck (Lpo L3 hq) (Tr.be (X4_givesPredicate L3 hq Q3) (Tr.ck (Lpo L3 hPA) (Tr.bd (X4_mark L3 hPA P3 (prd l)) (fun _ h4 z => ?_)))))
  obtain ⟨P4, F4⟩ := z
  have L4 := F4.lay L3
  have c4 : gI h4 4 2 = nI Hs.length := by rw [F4.I out4]; exact c3
  refine Tr.ck (Lo_4 L4) (Tr.ret ?_)
  have F5 : Fr (fun a => a = 4) h4 (sI h4 4 2 (gI h4 4 2 + 1)) := Fr.sI rfl
  have FA : Fr (fun a => a = 5 ∨ pR (pj Hs.length) a) h h4 := (((F1.wk (fun a x => Or.inl x)).tr (F2.wk (fun a x => Or.inr x))).tr (F3.wk (fun a x => Or.inr x))).tr (F4.wk (fun a x => Or.inr x))
  have g5' : gI h4 5 = va_up (gI h 5) Hs.length (nI s) := by rw [F4.I out5, F3.I out5, F2.I out5]; exact g5
  refine ⟨⟨by rw [gI_sI, upd_eq, c4, nI_1, List.length_append]; rfl, pj, ⟨fun j hj => ?_, G.2.1, by rw [List.length_append]; simp; omega, fun j e hj => ?_⟩⟩, (FA.wk (fun a x => by rcases x with x | x; unfold hiR; omega; exact sub a x)).tr (F5.wk (fun a x => by unfold hiR; omega))⟩
  · show gP h4 6 j = _ ∧ _
    rw [FA.2.2.2.1 6 (Or.inr (fun z => z.elim (by decide) out6))]
    exact G.1 j hj
  · have hlt := (List.getElem?_eq_some_iff.mp hj).1
    rw [List.length_append, List.length_singleton] at hlt
    rw [gI_sI_ne (by decide), g5']
    by_cases ej : j = Hs.length
    · subst ej
      rw [List.getElem?_append_right (Nat.le_refl _), Nat.sub_self] at hj
      cases hj
      rw [upd_eq]
      exact ⟨rfl, hs, P4.fr F5 (by omega) (by omega) (by omega), W⟩
    · rw [List.getElem?_append_left (by omega)] at hj
      obtain ⟨g1, g2, g3, g4⟩ := G.2.2.2 j e hj
      rw [upd_ne ej]
      have hpj := HL_PA _ (G.1 j (by omega)).2
      have hne : pj j ≠ pj Hs.length := fun z => ej (G.2.1 _ _ (by omega) hl z)
      have hap := PA_apart _ hpj.1 _ hPA hne
      refine ⟨g1, g2, (g3.fr FA ?_ ?_ ?_).fr F5 (by omega) (by omega) (by omega), g4⟩
      · rintro (z | z); omega; unfold pR at z; omega
      · rintro (z | z); omega; unfold pR at z; omega
      · rintro (z | z); omega; unfold pR at z; omega
theorem X2_save (L : Lay h) (G : HiOK h Hs) {s q : Nat} {l : List Nat} (hs : s < 4) (hq : PA q) (hq2 : 22 ≤ q) (Q : PolI h q l (prd l)) (W : Wf l) : Tr (f_X2_save 4 (nI s) q h) (fun _ h1 => HiOK h1 (hSave Hs s l) ∧ Fr hiR h h1) := by
  obtain ⟨c, pj, P⟩ := G
  have h5 := P.2.2.1
  refine Tr.ck (Lo_4 L) ?_
  rw [c]
  unfold hSave
  by_cases hl : Hs.length < 5
  · rw [if_pos hl]
    exact Tr.pos (nI_lt (b := 5) hl (by decide)) (X2_save12 L c P hl hs hq hq2 Q W)
  · rw [if_neg hl]
    refine Tr.neg (nI_nlt (b := 5) (by omega) (by omega)) (Tr.bd (X2_dropOldest L c P (by omega)) (fun _ h1 z => ?_))
    obtain ⟨⟨c1, pj1, P1⟩, F1⟩ := z
    have out : ∀ a, 22 ≤ a → ¬ hiR a := fun a x z => by unfold hiR at z; omega
    refine Tr.imp (X2_save12 (F1.lay L) c1 P1 (by rw [List.length_tail]; omega) hs hq hq2 (Q.fr F1 (out _ hq2) (out _ (by omega)) (out _ (by omega))) W) (fun _ h2 z => ⟨z.1, F1.tr z.2⟩)
end X2

/-! what a row demands of a field; which row is hit -/
def eF (d : Int32) (f : Nat) : Int32 := if f = 0 then d / 25 - d / 25 / 5 * 5 else if f = 1 then d / 5 - d / 5 / 5 * 5 else d - d / 5 * 5
def mtF (d : Int32) (p : Nat) : Nat → Bool
  | 0 => true
  | f + 1 => mtF d p f && (decide (eF d f = 4) || decide (eF d f = nI (vlN p f)))
theorem mtF_mono {d : Int32} {p f : Nat} (h : mtF d p f = false) : ∀ n, mtF d p (f + n) = false := by
  intro n
  induction n with
  | zero => exact h
  | succ n ih => show (mtF d p (f + n) && _) = false; rw [ih]; rfl
def hitN (RL : List (Int32 × Nat)) (n p : Nat) : Int32 := if lea (fun r => mtF (RL.getD r (0, 0)).1 p 3) n < n then nI (lea (fun r => mtF (RL.getD r (0, 0)).1 p 3) n) else -1
theorem X9_entryOf (d : Int32) {f : Nat} (hf : f < 3) (h : Hp) : f_X9_entryOf d (nI f) h = some (eF d f, h) := by
  match f, hf with
  | 0, _ => exact Tr.of_eq (Tr.pos rfl (Tr.nmx (Tr.ret ⟨rfl, rfl⟩)))
  | 1, _ => exact Tr.of_eq (Tr.neg (show ¬ nI 1 = (0 : Int32) by decide) (Tr.pos rfl (Tr.nmx (Tr.ret ⟨rfl, rfl⟩))))
  | 2, _ => exact Tr.of_eq (Tr.neg (show ¬ nI 2 = (0 : Int32) by decide) (Tr.neg (show ¬ nI 2 = (1 : Int32) by decide) (Tr.ret ⟨rfl, rfl⟩)))
theorem X8_meets {p : Nat} (hp : p < 64) (d : Int32) (h : Hp) : f_X8_meets (nI p) d h = some (bi (mtF d p 3), h) := by
  apply Tr.of_eq
  refine Tr.up (N := 3) (J := fun f y => y = (nI f, h) ∧ mtF d p f = true) ?_ ?_ (p := 0) ⟨rfl, rfl⟩ (Nat.zero_le _) (by omega)
  · intro f y kk hf hJ hk'
    obtain ⟨rfl, hj⟩ := hJ
    dsimp only
    have hv := vlN_lt p f
    refine Tr.neg (nI_ge (b := 3) hf (by decide)) (Tr.be (X9_entryOf d hf h) ?_)
    refine Tr.cs (fun c => Tr.nmx (hk' _ ⟨by rw [nI_1], ?_⟩)) (fun c => Tr.be (X9_valueOf hp hf h) (Tr.cs (fun c2 => Tr.nmx (hk' _ ⟨by rw [nI_1], ?_⟩)) (fun c2 => Tr.ret ⟨?_, rfl⟩)))
    · show (_ && _) = true
      rw [hj, decide_eq_true c]; rfl
    · show (_ && _) = true
      rw [hj, decide_eq_true c2, Bool.or_true]; rfl
    · have e : mtF d p (f + 1) = false := by
        show (_ && _) = false
        rw [decide_eq_false c, decide_eq_false c2, Bool.or_false, Bool.and_false]
      have := mtF_mono e (3 - (f + 1))
      rw [show f + 1 + (3 - (f + 1)) = 3 by omega] at this
      rw [this]; rfl
  · intro y kk hJ
    obtain ⟨rfl, hj⟩ := hJ
    refine Tr.pos (nI_le (b := 3) (Nat.le_refl _) (by decide)) (Tr.ret ⟨by rw [hj]; rfl, rfl⟩)
section X8
variable {h : Hp} {s : Nat} {D : List (Int64 × Int64)} {T : List TE} {r : Nat} {RL : List (Int32 × Nat)}
def qT (s : Nat) : Nat → Prop := fun a => 54 + 22 * s ≤ a ∧ a ≤ 56 + 22 * s
/-- the table's rows, of which n count -/
def TbR (h : Hp) (s : Nat) (RL : List (Int32 × Nat)) (n : Nat) : Prop := gI h (54 + 22 * s) 2 = nI n ∧ ∀ r x, RL[r]? = some x → gI h (55 + 22 * s) r = x.1 ∧ gI h (56 + 22 * s) r = nI x.2
theorem X8_addRow (L : Lay h) (hs : s < 4) (B : TbR h s RL RL.length) (hl : RL.length < 64) (q : Int32) (i : Nat) : Tr (f_X8_addRow (54 + 22 * s) q (nI i) h) (fun _ h1 => TbR h1 s (RL ++ [(q, i)]) (RL ++ [(q, i)]).length ∧ Fr (qT s) h h1) := by
  refine Tr.ck (Lso_54 L hs) ?_
  rw [B.1]
  refine Tr.neg (nI_ge (b := 64) hl (by decide)) (Tr.gp (Lsp_54_0 L hs) (Tr.ca (Lsa_55 L hs hl) (Tr.gp (Lsp_54_1 L.sI hs) ?_)))
  rw [nI_clamp (by omega), gI_sI_ne (by omega), B.1]
  refine Tr.ca (Lsa_56 L.sI hs hl) (Tr.nm (fun h1 e1 => Tr.ret ?_))
  rw [nI_clamp (by omega)] at e1
  have g2 : gI h1 (54 + 22 * s) 2 = nI RL.length := by rw [e1, gI_sI_ne (by omega), gI_sI_ne (by omega)]; exact B.1
  have g55 : gI h1 (55 + 22 * s) = va_up (gI h (55 + 22 * s)) RL.length q := by rw [e1, gI_sI_ne (by omega), gI_sI]
  have g56 : gI h1 (56 + 22 * s) = va_up (gI h (56 + 22 * s)) RL.length (nI i) := by rw [e1, gI_sI, gI_sI_ne (by omega)]
  have F1 : Fr (qT s) h h1 := by rw [e1]; exact (Fr.sI ⟨by omega, by omega⟩).tr (Fr.sI ⟨by omega, by omega⟩)
  refine ⟨⟨by rw [gI_sI, upd_eq, g2, nI_1, List.length_append]; rfl, fun k x hx => ?_⟩, F1.tr (Fr.sI ⟨by omega, by omega⟩)⟩
  have hlk := (List.getElem?_eq_some_iff.mp hx).1
  rw [List.length_append, List.length_singleton] at hlk
  rw [gI_sI_ne (by omega), gI_sI_ne (by omega), g55, g56]
  by_cases e : k = RL.length
  · subst e
    rw [List.getElem?_append_right (Nat.le_refl _), Nat.sub_self] at hx
    cases hx
    rw [upd_eq, upd_eq]
    exact ⟨rfl, rfl⟩
  · rw [List.getElem?_append_left (by omega)] at hx
    rw [upd_ne e, upd_ne e]
    exact B.2 k x hx
theorem qT_out {a : Nat} (h2 : a ≤ 51 + 22 * s) : ¬ qT s a := fun z => by unfold qT at z; omega
theorem X8_visit (hs : s < 4) : ∀ (m n d : Nat), d + m = 3 → m < n → ∀ (h : Hp) (i : Nat) (q : Int32) (RL : List (Int32 × Nat)), Lay h → DgOK h s D T r → TbR h s RL RL.length → i < D.length + T.length → RL.length + (vis D.length T (m + 1) i q).length ≤ 64 →
    Tr (f_X8_visit n (54 + 22 * s) (46 + 22 * s) (nI i) q (nI d) h) (fun _ h1 => TbR h1 s (RL ++ vis D.length T (m + 1) i q) (RL ++ vis D.length T (m + 1) i q).length ∧ Fr (qT s) h h1) := by
  intro m
  induction m with
  | zero =>
    intro n d hd hn h i q RL L G B hi hlen
    obtain ⟨n', rfl⟩ : ∃ n', n = n' + 1 := ⟨n - 1, by omega⟩
    have h1 := G.2.2.2.2.2.1
    have h2 := G.2.2.2.2.2.2
    show Tr (e_X8_visit (f_X8_visit n') _ _ _ _ _ _) _
    refine Tr.ck (Lso_46 L hs) ?_
    by_cases c : i < D.length
    · have ev : vis D.length T (0 + 1) i q = [(q, i)] := if_pos c
      rw [ev] at hlen ⊢
      have el : f_X0_isLeaf (46 + 22 * s) (nI i) h = some (1, h) := by
        apply Tr.of_eq
        refine Tr.ck (Lso_46 L hs) ?_
        rw [G.1.1]
        exact Tr.neg (nI_ge c (by omega)) (Tr.ret ⟨rfl, rfl⟩)
      refine Tr.be el (Tr.neg (by decide) (Tr.ck (Lso_54 L hs) (Tr.bd (X8_addRow L hs B (by simp at hlen; omega) q i) (fun _ h3 z => Tr.ret z))))
    · have ev : vis D.length T (0 + 1) i q = [] := by
        show (if _ then _ else _) = _
        rw [if_neg c]
        have z := visK_len (r := vis D.length T 0) (f := (T.getD (i - D.length) (0, [])).1) (c := chl T (i - D.length)) (mc := mainN (chl T (i - D.length))) (q := q) (B := 0) (fun _ _ => Nat.le_refl _) 4
        rw [List.length_eq_zero_iff.mp (Nat.le_zero.mp z)]
        rfl
      rw [ev, List.append_nil]
      have el : f_X0_isLeaf (46 + 22 * s) (nI i) h = some (0, h) := by
        apply Tr.of_eq
        refine Tr.ck (Lso_46 L hs) ?_
        rw [G.1.1]
        exact Tr.pos (nI_le (by omega) (by omega)) (Tr.ret ⟨rfl, rfl⟩)
      refine Tr.be el (Tr.pos rfl (Tr.neg (nI_nlt (b := 3) (by omega) (by omega)) (Tr.ret ⟨B, Fr.rf⟩)))
  | succ m ih =>
    intro n d hd hn h i q RL L G B hi hlen
    obtain ⟨n', rfl⟩ : ∃ n', n = n' + 1 := ⟨n - 1, by omega⟩
    have h1 := G.2.2.2.2.2.1
    have h2 := G.2.2.2.2.2.2
    show Tr (e_X8_visit (f_X8_visit n') _ _ _ _ _ _) _
    refine Tr.ck (Lso_46 L hs) ?_
    by_cases c : i < D.length
    · have ev : vis D.length T (m + 1 + 1) i q = [(q, i)] := if_pos c
      rw [ev] at hlen ⊢
      have el : f_X0_isLeaf (46 + 22 * s) (nI i) h = some (1, h) := by
        apply Tr.of_eq
        refine Tr.ck (Lso_46 L hs) ?_
        rw [G.1.1]
        exact Tr.neg (nI_ge c (by omega)) (Tr.ret ⟨rfl, rfl⟩)
      refine Tr.be el (Tr.neg (by decide) (Tr.ck (Lso_54 L hs) (Tr.bd (X8_addRow L hs B (by simp at hlen; omega) q i) (fun _ h3 z => Tr.ret z))))
    · have el : f_X0_isLeaf (46 + 22 * s) (nI i) h = some (0, h) := by
        apply Tr.of_eq
        refine Tr.ck (Lso_46 L hs) ?_
        rw [G.1.1]
        exact Tr.pos (nI_le (by omega) (by omega)) (Tr.ret ⟨rfl, rfl⟩)
      obtain ⟨k, rfl⟩ : ∃ k, i = D.length + k := ⟨i - D.length, by omega⟩
      have hk : k < T.length := by omega
      have eo : D.length + k - D.length = k := by omega
      have ev : vis D.length T (m + 1 + 1) (D.length + k) q = visK (vis D.length T (m + 1)) (T.getD k (0, [])).1 (chl T k) (mainN (chl T k)) q 4 ++ vis D.length T (m + 1) (mainN (chl T k)) q := by
        show (if _ then _ else _) = _
        rw [if_neg c, eo]
      obtain ⟨f1, f2⟩ := dg_fld G hk
      obtain ⟨v0, hv0, emain⟩ := mainN_is (chl T k)
      have hmain : mainN (chl T k) < D.length + k := by rw [emain]; exact (dg_chl G hk hv0).2
      refine Tr.be el (Tr.pos rfl (Tr.pos (nI_lt (b := 3) (by omega) (by decide)) (Tr.ck (Lso_46 L hs) (Tr.be (X0_fieldOf L hs (by omega)) (Tr.ck (Lso_46 L hs) (Tr.be (X0_main L hs G hk) ?_))))))
      rw [f1]
      rw [ev] at hlen ⊢
      rw [List.length_append] at hlen
      generalize (T.getD k (0, [])).1 = f at f2 hlen ⊢
      generalize hmc : mainN (chl T k) = mc at hmain hlen ⊢
      refine Tr.up (N := 4) (J := fun v x => x.1 = nI v ∧ Fr (qT s) h x.2 ∧ TbR x.2 s (RL ++ visK (vis D.length T (m + 1)) f (chl T k) mc q v) (RL ++ visK (vis D.length T (m + 1)) f (chl T k) mc q v).length) ?_ ?_ (p := 0) ⟨rfl, Fr.rf, by rw [show visK (vis D.length T (m + 1)) f (chl T k) mc q 0 = [] from rfl, List.append_nil]; exact B⟩ (Nat.zero_le _) (by omega)
      · intro v x kk hv hJ hk'
        obtain ⟨x1, h3⟩ := x
        obtain ⟨e, F3, B3⟩ := hJ
        dsimp only at e F3 B3
        subst e
        dsimp only
        have L3 := F3.lay L
        have G3 := G.fr F3 (fun a _ h => qT_out h)
        have hb := (dg_chl G hk hv).2
        have mono : ∀ w, w ≤ 4 → (visK (vis D.length T (m + 1)) f (chl T k) mc q w).length ≤ (visK (vis D.length T (m + 1)) f (chl T k) mc q 4).length := by
          intro w hw
          have : ∀ u, w + u ≤ 4 → (visK (vis D.length T (m + 1)) f (chl T k) mc q w).length ≤ (visK (vis D.length T (m + 1)) f (chl T k) mc q (w + u)).length := by
            intro u
            induction u with
            | zero => intro _; exact Nat.le_refl _
            | succ u ih2 =>
              intro hu
              have := ih2 (by omega)
              show _ ≤ (visK _ _ _ _ _ (w + u) ++ _).length
              rw [List.length_append]; omega
          have := this (4 - w) (by omega)
          rw [show w + (4 - w) = 4 by omega] at this
          exact this
        refine Tr.neg (nI_ge (b := 4) hv (by decide)) (Tr.ck (Lso_46 L3 hs) (Tr.be (X0_child L3 hs G3 hk hv) ?_))
        have es : visK (vis D.length T (m + 1)) f (chl T k) mc q (v + 1) = visK (vis D.length T (m + 1)) f (chl T k) mc q v ++ (if chl T k v = mc then [] else vis D.length T (m + 1) (chl T k v) (q + (nI v - 4) * wtI f)) := rfl
        refine Tr.cs (fun c2 => Tr.nmx (hk' _ ⟨nI_1 v, F3, ?_⟩)) (fun c2 => ?_)
        · have c2 := (nI_eq (by omega) (by omega)).mp c2
          rw [es, if_pos c2, List.append_nil]
          exact B3
        · have c2 : ¬ chl T k v = mc := fun e => c2 (by rw [e])
          rw [if_neg c2] at es
          have hm1 := mono (v + 1) (by omega)
          rw [es, List.length_append] at hm1
          refine Tr.be (X9_weightOf f2 h3) ?_
          have ed : nI d + 1 = nI (d + 1) := nI_1 d
          rw [ed]
          refine Tr.bd (ih n' (d + 1) (by omega) (by omega) h3 (chl T k v) (q + (nI v - 4) * wtI f) _ L3 G3 B3 (by omega) (by rw [List.length_append]; omega)) (fun _ h4 z => Tr.nmx (hk' _ ⟨nI_1 v, F3.tr z.2, ?_⟩))
          rw [es, ← List.append_assoc]
          exact z.1
      · intro x kk hJ
        obtain ⟨x1, h3⟩ := x
        obtain ⟨e, F3, B3⟩ := hJ
        dsimp only at e F3 B3
        subst e
        dsimp only
        have L3 := F3.lay L
        have G3 := G.fr F3 (fun a _ h => qT_out h)
        have ed : nI d + 1 = nI (d + 1) := nI_1 d
        refine Tr.pos (nI_le (b := 4) (Nat.le_refl _) (by decide)) ?_
        rw [ed]
        refine Tr.bd (ih n' (d + 1) (by omega) (by omega) h3 mc q _ L3 G3 B3 (by omega) (by rw [List.length_append]; omega)) (fun _ h4 z => Tr.ret ⟨?_, F3.tr z.2⟩)
        rw [← List.append_assoc]
        exact z.1
end X8

/-! THE CLASS'S PRINTOUT of slot s: object 39 + 22 s, rows bytes, lengths, wrapped, places -/
def q5 (s : Nat) : Nat → Prop := fun a => 39 + 22 * s ≤ a ∧ a ≤ 43 + 22 * s
def Seg (T : List Nat) (p : Nat) (s : List Nat) : Prop := ∃ u v, T = u ++ (s ++ v) ∧ u.length = p
def Cor (T : List Nat) (b : Nat → Int32) (S : Nat → Prop) : Prop := ∀ i, i < T.length → b i = nI (T.getD i 0) ∨ S i
def Inn (p : Nat) (w : Bool) (st : List Nat) (i : Nat) : Prop := p + (if w then 1 else 0) ≤ i ∧ i < p + (if w then 1 else 0) + st.length
theorem getD_mid {u s v : List Nat} {ch : Nat} : (u ++ (ch :: s)).getD u.length 0 = ch := by
  rw [List.getD_eq_getElem?_getD, List.getElem?_append_right (Nat.le_refl _)]; simp
theorem Cor.put {T : List Nat} {b : Nat → Int32} {S S2 : Nat → Prop} {p ch : Nat} (h : Cor T b S) (hc : T.getD p 0 = ch) (hS : ∀ i, S i → i ≠ p → S2 i) : Cor T (va_up b p (nI ch)) S2 := by
  intro i hi
  by_cases e : i = p
  · subst e; rw [upd_eq, hc]; exact Or.inl rfl
  · rw [upd_ne e]
    exact (h i hi).imp id (fun x => hS i x e)
theorem Cor.wk {T : List Nat} {b : Nat → Int32} {S S2 : Nat → Prop} (h : Cor T b S) (hS : ∀ i, S i → S2 i) : Cor T b S2 := fun i hi => (h i hi).imp id (hS i)
section X5
variable {h h0 : Hp} {s : Nat} {l : List Nat} {b : Bool} {Lr Wr F : Nat → Int32}
def NS (h0 h : Hp) (s : Nat) (l : List Nat) (b : Bool) (Lr Wr F : Nat → Int32) : Prop := Lay h ∧ PolI h (36 + 22 * s) l b ∧ gI h (41 + 22 * s) = Lr ∧ gI h (42 + 22 * s) = Wr ∧ gI h (39 + 22 * s) = F ∧ Fr (q5 s) h0 h
def PS (T v : List Nat) (h : Hp) (s : Nat) (u rst : List Nat) (S : Nat → Prop) : Prop := T = u ++ (rst ++ v) ∧ Cor T (gI h (40 + 22 * s)) (fun i => S i ∨ (u.length ≤ i ∧ i < u.length + rst.length))
theorem X5_put (L : Lay h) (hs : s < 4) {p : Nat} {ch : Int32} (hp : p < 360) : f_X5_put (39 + 22 * s) (nI p) ch h = some ((), sI h (40 + 22 * s) p ch) := by
  apply Tr.of_eq
  refine Tr.neg (nI_pos (by omega)) (Tr.neg (nI_ge (b := 360) hp (by decide)) (Tr.ck (Lso_39 L hs) (Tr.gp (Lsp_39_0 L hs) (Tr.ca (Lsa_40 L hs hp) (Tr.ret ⟨rfl, ?_⟩)))))
  rw [nI_clamp (by omega)]
theorem NS.bytes (N : NS h0 h s l b Lr Wr F) {f : Nat → Int32} : NS h0 (wI h (40 + 22 * s) f) s l b Lr Wr F := by
  obtain ⟨n1, n2, n3, n4, n5, n6⟩ := N
  refine ⟨n1.wI, n2.fr (A := fun a => a = 40 + 22 * s) (Fr.wI rfl) (by omega) (by omega) (by omega), ?_, ?_, ?_, n6.tr (Fr.wI ⟨by omega, by omega⟩)⟩
  · rw [gI_wI_ne (by omega)]; exact n3
  · rw [gI_wI_ne (by omega)]; exact n4
  · rw [gI_wI_ne (by omega)]; exact n5
theorem NS.places (N : NS h0 h s l b Lr Wr F) {f : Nat → Int32} : NS h0 (wI h (43 + 22 * s) f) s l b Lr Wr F := by
  obtain ⟨n1, n2, n3, n4, n5, n6⟩ := N
  refine ⟨n1.wI, n2.fr (A := fun a => a = 43 + 22 * s) (Fr.wI rfl) (by omega) (by omega) (by omega), ?_, ?_, ?_, n6.tr (Fr.wI ⟨by omega, by omega⟩)⟩
  · rw [gI_wI_ne (by omega)]; exact n3
  · rw [gI_wI_ne (by omega)]; exact n4
  · rw [gI_wI_ne (by omega)]; exact n5
theorem X5_putS (hs : s < 4) (N : NS h0 h s l b Lr Wr F) {T v u rst : List Nat} {ch : Nat} {S : Nat → Prop} {c : Int32} (hc : c = nI ch) (hT : T.length ≤ 358) (p : PS T v h s u (ch :: rst) S) : Tr (f_X5_put (39 + 22 * s) (nI u.length) c h) (fun _ h1 => NS h0 h1 s l b Lr Wr F ∧ PS T v h1 s (u ++ [ch]) rst S ∧ gI h1 (43 + 22 * s) = gI h (43 + 22 * s)) := by
  subst hc
  have hlen : u.length < T.length := by rw [p.1]; simp
  refine Tr.eq (X5_put N.1 hs (by omega)) ?_
  rw [sI_w]
  refine ⟨N.bytes, ⟨?_, ?_⟩, gI_wI_ne (by omega)⟩
  · rw [p.1]; simp
  · rw [gI_wI]
    refine p.2.put (by rw [p.1]; exact getD_mid (v := v)) (fun i hi hne => ?_)
    rw [List.length_append]
    rcases hi with hi | hi
    · exact Or.inl hi
    · refine Or.inr ?_
      rw [List.length_cons] at hi
      simp only [List.length_singleton]
      omega
theorem X5_placed (hs : s < 4) (N : NS h0 h s l b Lr Wr F) {T v u rst st : List Nat} {w : Bool} {j : Nat} {S : Nat → Prop} (hj : j < 60) (hw : Wr j = bi w) (hl : Lr j = nI (wrS w st).length) (hT : T.length ≤ 358) (p : PS T v h s u (wrS w st ++ rst) S) : Tr (f_X5_placed (39 + 22 * s) (nI j) (nI u.length) h) (fun r h1 => r = nI (u ++ wrS w st).length ∧ NS h0 h1 s l b Lr Wr F ∧ PS T v h1 s (u ++ wrS w st) rst (fun i => S i ∨ Inn u.length w st i) ∧ gI h1 (43 + 22 * s) = va_up (gI h (43 + 22 * s)) j (nI u.length)) := by
  have L := N.1
  have hlen : u.length + (wrS w st).length ≤ T.length := by rw [p.1]; simp
  refine Tr.neg (nI_pos (by omega)) (Tr.pos (nI_lt (b := 60) hj (by decide)) (Tr.ck (Lso_39 L hs) (Tr.gp (Lsp_39_1 L hs) (Tr.ca (Lsa_41 L hs hj) (Tr.nm (fun e he => ?_))))))
  rw [nI_clamp (by omega), N.2.2.1, hl, nI_add] at he
  subst he
  refine Tr.gp (Lsp_39_3 L hs) (Tr.ca (Lsa_43 L hs hj) (Tr.gp (Lsp_39_2 L.sI hs) (Tr.ca (Lsa_42 L.sI hs hj) ?_)))
  rw [nI_clamp (by omega), sI_w, gI_wI_ne (by omega), N.2.2.2.1, hw]
  have N1 := N.places (f := va_up (gI h (43 + 22 * s)) j (nI u.length))
  cases w
  · refine Tr.pos rfl (Tr.ret ⟨by rw [List.length_append], N1, ⟨?_, ?_⟩, gI_wI⟩)
    · rw [p.1]; simp
    · rw [gI_wI_ne (by omega)]
      refine p.2.wk (fun i hi => ?_)
      simp only [List.length_append] at hi ⊢
      rcases hi with hi | hi
      · exact Or.inl (Or.inl hi)
      · by_cases c : i < u.length + (wrS false st).length
        · exact Or.inl (Or.inr ⟨by simpa using hi.1, by simpa [wrS] using c⟩)
        · exact Or.inr (by omega)
  · have e1 : wrS true st = 40 :: (st ++ [41]) := rfl
    have e2 : (wrS true st).length = st.length + 2 := by rw [e1]; simp
    refine Tr.neg (by decide) (Tr.be (X5_put N1.1 hs (by omega)) ?_)
    rw [sI_w]
    have N2 := N1.bytes (f := va_up (gI (wI h (43 + 22 * s) (va_up (gI h (43 + 22 * s)) j (nI u.length))) (40 + 22 * s)) u.length (40 : Int32))
    refine Tr.ck (Lso_39 N2.1 hs) ?_
    have e3 : nI (u.length + (wrS true st).length) - 1 = nI (u.length + st.length + 1) := by rw [e2, show u.length + (st.length + 2) = u.length + st.length + 1 + 1 by omega, nI_pred]
    rw [e3]
    refine Tr.be (X5_put N2.1 hs (by omega)) ?_
    rw [sI_w]
    refine Tr.ret ⟨by rw [List.length_append], N2.bytes, ⟨?_, ?_⟩, ?_⟩
    · rw [p.1]; simp
    · rw [gI_wI, gI_wI, gI_wI_ne (by omega)]
      refine ((p.2.put (p := u.length) (ch := 40) ?_ (S2 := fun i => (S i ∨ (u.length ≤ i ∧ i < u.length + (wrS true st ++ rst).length)) ∧ i ≠ u.length) (fun i hi hne => ⟨hi, hne⟩)).put (p := u.length + st.length + 1) (ch := 41) ?_ (fun i hi hne => ?_))
      · rw [p.1, e1]; exact getD_mid (v := v)
      · rw [p.1, e1, List.getD_eq_getElem?_getD, List.getElem?_append_right (by omega)]
        rw [show u.length + st.length + 1 - u.length = st.length + 1 by omega]
        simp
      · obtain ⟨hi, hne2⟩ := hi
        rw [List.length_append, e2] at hi
        rw [List.length_append, e2]
        rcases hi with hi | hi
        · exact Or.inl (Or.inl hi)
        · by_cases c : i < u.length + (st.length + 2)
          · refine Or.inl (Or.inr ⟨?_, ?_⟩)
            · rw [if_pos rfl]; omega
            · rw [if_pos rfl]; omega
          · exact Or.inr (by omega)
    · rw [gI_wI_ne (by omega), gI_wI_ne (by omega), gI_wI]
theorem X5_innerPlace (L : Lay h) (hs : s < 4) {k p : Nat} {w : Bool} (hk : k < 60) (hw : gI h (42 + 22 * s) k = bi w) (hq : gI h (43 + 22 * s) k = nI p) : f_X5_innerPlace (39 + 22 * s) (nI k) h = some (nI (p + if w then 1 else 0), h) := by
  apply Tr.of_eq
  refine Tr.neg (nI_pos (by omega)) (Tr.pos (nI_lt (b := 60) hk (by decide)) (Tr.ck (Lso_39 L hs) (Tr.gp (Lsp_39_2 L hs) (Tr.ca (Lsa_42 L hs hk) ?_))))
  rw [nI_clamp (by omega), hw]
  cases w
  · refine Tr.pos rfl (Tr.gp (Lsp_39_3 L hs) (Tr.ca (Lsa_43 L hs hk) (Tr.ret ⟨hq, rfl⟩)))
  · refine Tr.neg (by decide) (Tr.gp (Lsp_39_3 L hs) (Tr.ca (Lsa_43 L hs hk) (Tr.ret ⟨?_, rfl⟩)))
    rw [hq, nI_1]; rfl
end X5

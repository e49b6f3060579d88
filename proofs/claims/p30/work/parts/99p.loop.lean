/-! THE LAW'S LOOP -/
/-- what is told: a size of what is stored, or what fails, the slots as they were -/
def TD (S0 : Nat → List Nat) (told : Int32) (G' : St) : Prop := (∃ n Gt t m, told = nI n ∧ 1 ≤ n ∧ n ≤ 60 ∧ G' = stoS Gt t m ∧ Gt.2.2.1 = S0 ∧ Gt.2.2.2.2.length ≤ 5) ∨ ((told = -4 ∨ told = -3 ∨ told = -11) ∧ G'.2.2.1 = S0)
section LLP
variable {h0 h : Hp} {G : St} {Q : Int32 → Hp → Prop}
theorem lk {S : Nat → List Nat} {e : Option (Int32 × Hp)} {K : Int32 → Hp → Option (Int32 × Hp)} (t : Tr e (LOK h0 S)) (k : ∀ h1 G', WS h0 h1 G' → Tr (K 1 h1) Q) : Tr (bd e K) Q := by
  refine Tr.bd t (fun r h1 q => ?_)
  obtain ⟨rfl, G', W', _⟩ := q
  exact k h1 G' W'
theorem low_ok {v : Int32} {n : Nat} (hn : 0 < n) (hn2 : n < 2 ^ 31) (h : Hp) : ∃ k, k < n ∧ f_L_low v (nI n) h = some (nI k, h) := by
  obtain ⟨j, hj, e⟩ := pk_andE v (m := 2147483647) 31 rfl
  refine ⟨j % n, Nat.mod_lt _ hn, ?_⟩
  apply Tr.of_eq
  refine Tr.neg (fun z => by have := (nI_eq (a := n) (b := 0) hn2 (by decide)).mp z; omega) ?_
  rw [e]
  refine Tr.nmx (Tr.ret ⟨?_, rfl⟩)
  exact pk_rem hj hn hn2
theorem c_low {v : Int32} {n : Nat} {K : Int32 → Hp → Option (Int32 × Hp)} (hn : 0 < n) (hn2 : n < 2 ^ 31) (k : ∀ j, j < n → Tr (K (nI j) h) Q) : Tr (bd (f_L_low v (nI n) h) K) Q := by
  obtain ⟨j, hj, e⟩ := low_ok (v := v) hn hn2 h
  exact Tr.be e (k j hj)
theorem c_cell (W : WS h0 h G) (hL : (gS h0 0).2 ≤ 260) {j : Nat} {K : Int32 → Hp → Option (Int32 × Hp)} (hj : j < 1000) (k : ∀ x, Tr (K x h) Q) : Tr (bd (f_L_cell (nI j) h) K) Q := by
  have eS : gS h = gS h0 := W.2.2.2.1
  have : ∃ x, f_L_cell (nI j) h = some (x, h) := by
    by_cases c : (gS h 0).2 ≤ j
    · refine ⟨_, Tr.of_eq (Tr.pos (nI_le (a := (gS h 0).2) c (by omega)) (Tr.ret ⟨rfl, rfl⟩))⟩
    · refine ⟨_, Tr.of_eq (Tr.neg (nI_ge (b := (gS h 0).2) (by omega) (by rw [eS]; omega)) (Tr.pos ?_ (Tr.ret ⟨rfl, rfl⟩)))⟩
      rw [nI_clamp (by omega)]
      rintro (z | z)
      · exact nI_pos (by omega) z
      · exact c z
  obtain ⟨x, e⟩ := this
  exact Tr.be e (k x)
variable {k53 : (Int32 × Int32 × Hp) → Option (Int32 × Hp)} {t a b to p : Nat}
theorem lw615 (W : WS h0 h G) (kk : ∀ h1 G1, WS h0 h1 G1 → Tr (k53 (1, nI (t + 1), h1)) Q) : Tr (f_L_law_615 k53 1 (nI t) h) Q := by
  refine Tr.cs (fun _ => lk (L_refused W) (fun h1 G1 W1 => Tr.neg (by decide) (Tr.nmx ?_))) (fun _ => Tr.nmx ?_)
  · rw [nI_1]; exact kk h1 G1 W1
  · rw [nI_1]; exact kk h G W
theorem lw597 (W : WS h0 h G) (ha : a < 4) (hto : to < 3) (kk : ∀ h1 G1, WS h0 h1 G1 → Tr (k53 (1, nI (t + 1), h1)) Q) : Tr (f_L_law_597 k53 1 (nI t) (nI a) (nI to) h) Q :=
  Tr.cs (fun _ => lk (L_isDrawn W (by omega) ha) (fun h1 G1 W1 => Tr.neg (by decide) (lw615 W1 kk))) (fun _ => lw615 W kk)
theorem lw579 (W : WS h0 h G) (ha : a < 4) (hto : to < 3) (kk : ∀ h1 G1, WS h0 h1 G1 → Tr (k53 (1, nI (t + 1), h1)) Q) : Tr (f_L_law_579 k53 1 (nI t) (nI a) (nI to) h) Q :=
  Tr.cs (fun _ => lk (L_isCompared W ha (by omega)) (fun h1 G1 W1 => Tr.neg (by decide) (lw597 W1 ha hto kk))) (fun _ => lw597 W ha hto kk)
theorem lw561 (W : WS h0 h G) (ha : a < 4) (hto : to < 3) (hp : p < 64) (kk : ∀ h1 G1, WS h0 h1 G1 → Tr (k53 (1, nI (t + 1), h1)) Q) : Tr (f_L_law_561 k53 1 (nI t) (nI a) (nI to) (nI p) h) Q :=
  Tr.cs (fun _ => lk (L_isChanged W (show to < 4 by omega) hp) (fun h1 G1 W1 => Tr.neg (by decide) (lw579 W1 ha hto kk))) (fun _ => lw579 W ha hto kk)
theorem lw506 {x : Int32} (W : WS h0 h G) (ha : a < 4) (hb : b < 4) (hto : to < 3) (hp : p < 64) (kk : ∀ h1 G1, WS h0 h1 G1 → Tr (k53 (1, nI (t + 1), h1)) Q) : Tr (f_L_law_506 k53 1 1 (nI t) x (nI a) (nI b) (nI to) (nI p) h) Q := by
  have e63 : (63 : Int32) - nI p = nI (63 - p) := pk_sub (a := 63) (b := p) (by omega)
  refine Tr.neg (by decide) (lk (L_isHit W (show to < 4 by omega) hp) (fun h1 G1 W1 => Tr.neg (by decide) ?_))
  rw [e63]
  refine lk (L_isHit W1 ha (show 63 - p < 64 by omega)) (fun h2 G2 W2 => Tr.neg (by decide) (Tr.cs (fun _ => lw561 W2 ha hto hp kk) (fun _ => ?_)))
  obtain ⟨o, ho, eo⟩ := pk_andE (x >>> ((7 : Int32) &&& 31)) (m := 1) 1 rfl
  rw [eo]
  exact lk (L_isJoined W2 (show o < 2 by omega) ha hb hp) (fun h3 G3 W3 => Tr.neg (by decide) (lw561 W3 ha hto hp kk))
theorem lw462 {x : Int32} {told : Int32} {S0 : Nat → List Nat} (W : WS h0 h G) (D : TD S0 told G) (ha : a < 4) (hb : b < 4) (hto : to < 3) (hp : p < 64) (kk : ∀ h1 G1, WS h0 h1 G1 → Tr (k53 (1, nI (t + 1), h1)) Q) : Tr (f_L_law_462 k53 1 (nI t) x (nI a) (nI b) (nI to) (nI p) (prL S0 4) told 1 h) Q := by
  refine Tr.neg (by decide) ?_
  rcases D with ⟨n, Gt, s, m, et, h1, h60, eG, eS, hl⟩ | ⟨et, eS⟩
  · subst et
    refine Tr.neg (nI_nle h1 (by omega)) (Tr.cs (fun _ => ?_) (fun _ => lw506 W ha hb hto hp kk))
    subst eG
    obtain ⟨r, G', eu, hr, es⟩ := undo_sto (G := Gt) (t := s) (m := m) hl
    refine lce W (X9_undo W.1) eu (fun h1 W1 => Tr.neg (nI_pos (n := r) (by omega)) (L_print W1 (fun h2 W2 => ?_)))
    rw [es, eS]
    exact Tr.pos (lg_same _) (lw506 W2 ha hb hto hp kk)
  · have n1 : told ≤ 0 := by rcases et with rfl | rfl | rfl <;> decide
    exact Tr.pos n1 (lw506 W ha hb hto hp kk)
theorem lw438 {x : Int32} {told : Int32} {S0 : Nat → List Nat} (W : WS h0 h G) (D : TD S0 told G) (ha : a < 4) (hb : b < 4) (hto : to < 3) (hp : p < 64) (kk : ∀ h1 G1, WS h0 h1 G1 → Tr (k53 (1, nI (t + 1), h1)) Q) : Tr (f_L_law_438 k53 1 1 (nI t) x (nI a) (nI b) (nI to) (nI p) (prL S0 4) told h) Q := by
  refine Tr.neg (by decide) ?_
  rcases id D with ⟨n, Gt, s, m, et, h1, h60, eG, eS, hl⟩ | ⟨et, eS⟩
  · have g := lw462 (x := x) W D ha hb hto hp kk
    subst et
    exact Tr.pos (nI_lt (a := 0) (b := n) (by omega) (by omega)) g
  · have n0 : ¬ 0 < told := by rcases et with rfl | rfl | rfl <;> decide
    refine Tr.neg n0 (L_print W (fun h1 W1 => ?_))
    have g := lw462 (x := x) W1 D ha hb hto hp kk
    rw [eS]
    exact Tr.pos (lg_same _) g
/-- what is stored is told -/
theorem TD.sto {Gc : St} {s : Nat} {m : List Nat} {S0 : Nat → List Nat} (h1 : 1 ≤ m.length) (eS : Gc.2.2.1 = S0) (hl : Gc.2.2.2.2.length ≤ 5) : TD S0 (aStore Gc s m).1 (aStore Gc s m).2 ∧ ((∃ n, (aStore Gc s m).1 = nI n ∧ 1 ≤ n ∧ n ≤ 60) ∨ (aStore Gc s m).1 = -4) := by
  by_cases c : m.length ≤ 60
  · rw [sto_fit c]
    exact ⟨Or.inl ⟨m.length, Gc, s, m, rfl, h1, c, rfl, eS, hl⟩, Or.inl ⟨m.length, rfl, h1, c⟩⟩
  · rw [sto_big c]
    exact ⟨Or.inr ⟨Or.inl rfl, eS⟩, Or.inr rfl⟩
theorem TD.of {Gc : St} {s : Nat} {m : List Nat} {S0 : Nat → List Nat} {told : Int32} {G' : St} (e : (told, G') = aStore Gc s m) (h1 : 1 ≤ m.length) (eS : Gc.2.2.1 = S0) (hl : Gc.2.2.2.2.length ≤ 5) : TD S0 told G' ∧ ((∃ n, told = nI n ∧ 1 ≤ n ∧ n ≤ 60) ∨ told = -4) := by
  have a1 : told = (aStore Gc s m).1 := congrArg Prod.fst e
  have a2 : G' = (aStore Gc s m).2 := congrArg Prod.snd e
  rw [a1, a2]
  exact TD.sto h1 eS hl
/-- a word with letters -/
theorem lw383 {x y : Int32} {word : Int64} {Wd : Nat → Nat} {wt : Nat → Nat → Nat → List Nat} (W : WS h0 h G) (ha : a < 4) (hb : b < 4) (hto : to < 3) (hp : p < 64) (rd : ∀ p, p < 8 → (word >>> ((nI (8 * p)).toInt64 &&& 63)) &&& 255 = lN (Wd p)) (wb : ∀ p, p < 8 → Wd p < 256)
    (ac : ∀ a, a < 4 → ∀ b, b < 4 → ∀ c, c < 4 → ∀ k, k < 8 → (lN (naN (fun p => su a b c (Wd p)) k) <<< ((8 : Int32).toInt64 &&& 63)) ||| lN (su a b c (Wd (7 - k))) = lN (naN (fun p => su a b c (Wd p)) (k + 1)))
    (rr : ∀ a, a < 4 → ∀ b, b < 4 → ∀ c, c < 4 → ∀ p, p < 8 → ((lN (naN (fun p => su a b c (Wd p)) 8) >>> ((nI (8 * p)).toInt64 &&& 63)) &&& 255).toInt32 = nI (su a b c (Wd p)))
    (wl : ∀ a, a < 4 → ∀ b, b < 4 → ∀ c, c < 4 → ∀ p, p < 8 → su a b c (Wd p) < 128)
    (wx : ∀ a, a < 4 → ∀ b, b < 4 → ∀ c, c < 4 → tbL (fun p => su a b c (Wd p)) 8 = wt a b c)
    (wp : ∀ a, a < 4 → ∀ b, b < 4 → ∀ c, c < 4 → prn G.2.2.1 (fun i => (wt a b c).getD i 0) (wt a b c).length (wt a b c).length q0 = Sum.inl 1 ∨ ∃ l, prn G.2.2.1 (fun i => (wt a b c).getD i 0) (wt a b c).length (wt a b c).length q0 = Sum.inr l ∧ 1 ≤ l.length)
    (kk : ∀ h1 G1, WS h0 h1 G1 → Tr (k53 (1, nI (t + 1), h1)) Q) : Tr (f_L_law_383 k53 1 (nI t) x y (nI a) (nI b) (nI to) (nI p) (prL G.2.2.1 4) 1 word h) Q := by
  refine c_low (n := 4) (by decide) (by decide) (fun c hc => L_filled ha hb hc rd wb (ac a ha b hb c hc) ?_)
  have fin : ∀ told h1 G1, WS h0 h1 G1 → TD G.2.2.1 told G1 → ((∃ n, told = nI n ∧ 1 ≤ n ∧ n ≤ 60) ∨ told = -4 ∨ told = -11) → Tr (if told ≤ 0 then f_L_law_418 k53 1 (nI t) x (nI a) (nI b) (nI to) (nI p) (prL G.2.2.1 4) told h1 else if told < 61 then f_L_law_432 k53 1 (nI t) x (nI a) (nI b) (nI to) (nI p) (prL G.2.2.1 4) told h1 else f_L_law_418 k53 1 (nI t) x (nI a) (nI b) (nI to) (nI p) (prL G.2.2.1 4) told h1) Q := by
    intro told h1 G1 W1 D hd
    have go := lw438 (x := x) W1 D ha hb hto hp kk
    rcases hd with ⟨n, rfl, n1, n60⟩ | rfl | rfl
    · exact Tr.neg (nI_nle n1 (by omega)) (Tr.pos (nI_lt (b := 61) (by omega) (by decide)) go)
    · exact Tr.pos (by decide) (Tr.pos rfl go)
    · exact Tr.pos (by decide) (Tr.neg (by decide) (Tr.pos rfl go))
  rcases wp a ha b hb c hc with e | ⟨l, e, hl⟩
  · refine L_parsed W (show to < 4 by omega) (rr a ha b hb c hc) (wl a ha b hb c hc) (wx a ha b hb c hc) e (fun h1 told G1 P W1 => ?_)
    obtain ⟨et, eS⟩ := (P : told = (-10 : Int32) - nI 1 ∧ G1.2.2.1 = G.2.2.1)
    have et : told = -11 := et.trans (by decide)
    exact fin told h1 G1 W1 (Or.inr ⟨Or.inr (Or.inr et), eS⟩) (Or.inr (Or.inr et))
  · refine L_parsed W (show to < 4 by omega) (rr a ha b hb c hc) (wl a ha b hb c hc) (wx a ha b hb c hc) e (fun h1 told G1 P W1 => ?_)
    obtain ⟨Gc, e2, e3⟩ := (P : ∃ Gc : St, Gc.2.2 = G.2.2 ∧ (told, G1) = aStore Gc to l)
    have hh := W.hist
    obtain ⟨D, hd⟩ := TD.of e3 hl (S0 := G.2.2.1) (by rw [e2]) (by rw [e2]; exact hh)
    exact fin told h1 G1 W1 D (hd.imp id Or.inl)
/-- a test or an assignment -/
theorem lw188 {x y : Int32} {f o : Nat} {w2 : Int32} (W : WS h0 h G) (ht : t < 22) (ha : a < 4) (hb : b < 4) (hto : to < 3) (hp : p < 64) (hf : f < 3) (ho : o < 2) (hw : w2 = if o = 0 then (61 : Int32) else 58) (kk : ∀ h1 G1, WS h0 h1 G1 → Tr (k53 (1, nI (t + 1), h1)) Q) : Tr (f_L_law_188 k53 1 (nI t) x (nI a) (nI b) (nI to) (nI p) (prL G.2.2.1 4) 1 ((((120 : Int32) + nI f).toInt64) <<< ((8 : Int32).toInt64 &&& 63)) w2 h) Q := by
  subst hw
  refine c_low (n := 4) (by decide) (by decide) (fun v hv => ?_)
  have go : ∀ s, s < 4 → Tr (f_L_law_217 k53 1 (nI t) x (nI a) (nI b) (nI to) (nI p) (prL G.2.2.1 4) 1 (tsV f o v) (nI s) h) Q := by
    intro s hs
    refine L_parsed W hs (ts_rd f hf o ho v hv) (ts_lt f hf o ho v hv) (ts_t f hf o ho v hv) (prn_tst f hf o ho v hv) (fun h1 told G1 P W1 => ?_)
    obtain ⟨Gc, e2, e3⟩ := (P : ∃ Gc : St, Gc.2.2 = G.2.2 ∧ (told, G1) = aStore Gc s [32 + 16 * o + 4 * f + v])
    have hh := W.hist
    obtain ⟨D, hd⟩ := TD.of e3 (Nat.le_refl 1) (S0 := G.2.2.1) (by rw [e2]) (by rw [e2]; exact hh)
    have et : told = 1 := congrArg Prod.fst (e3.trans (sto_fit (m := [32 + 16 * o + 4 * f + v]) (show 1 ≤ 60 by decide)))
    refine Tr.pos et ?_
    exact lw438 (x := x) W1 D ha hb hto hp kk
  exact Tr.cs (fun _ => go to (by omega)) (fun c => go t (by
    rcases Nat.lt_or_ge t 4 with q | q
    · exact q
    · exact absurd (nI_le (a := 4) (b := t) q (by omega)) c))
theorem lw146 {x y : Int32} {s : Nat} (W : WS h0 h G) (ht : t < 22) (ha : a < 4) (hb : b < 4) (hto : to < 3) (hp : p < 64) (kk : ∀ h1 G1, WS h0 h1 G1 → Tr (k53 (1, nI (t + 1), h1)) Q) : Tr (f_L_law_146 k53 1 (nI t) x y (nI a) (nI b) (nI to) (nI p) (prL G.2.2.1 4) (nI s) h) Q := by
  have hS : ∀ s, s < 4 → 1 ≤ (G.2.2.1 s).length := fun s hs => (W.wf hs).pos
  have hh := W.hist
  refine Tr.cs (fun _ => Tr.cs (fun _ => Tr.cs (fun _ => Tr.cs (fun _ => ?_) (fun _ => Tr.cs (fun _ => ?_) (fun _ => ?_))) (fun _ => ?_)) (fun _ => ?_)) (fun _ => ?_)
  · exact lw383 (wt := fun a b c => [40, 112 + a, 46, 112 + b, 41, 42, 43, 112 + c]) W ha hb hto hp wd1_rd wd1_b wd1_ac wd1_rr wd1_lt wd1_t (fun a ha b hb c hc => Or.inr ⟨_, prn_1 ha hb hc, by simp only [List.length_append, List.length_cons, List.length_nil]; omega⟩) kk
  · exact lw383 (wt := fun a b c => [112 + a, 43, 112 + b, 46, 112 + c]) W ha hb hto hp wd2_rd wd2_b wd2_ac wd2_rr wd2_lt wd2_t (fun a ha b hb c hc => Or.inr ⟨_, prn_2 ha hb hc, by simp only [List.length_append, List.length_cons, List.length_nil]; omega⟩) kk
  · exact lw383 (wt := fun a b c => [91, 112 + a, 63, 112 + b, 124, 112 + c, 93]) W ha hb hto hp wd3_rd wd3_b wd3_ac wd3_rr wd3_lt wd3_t (fun a ha b hb c hc => (prn_3 (S := G.2.2.1) ha hb hc).imp id (fun e => ⟨_, e, by simp only [List.length_append, List.length_cons, List.length_nil]; omega⟩)) kk
  · obtain ⟨o, ho, eo⟩ := pk_andE (x >>> ((5 : Int32) &&& 31)) (m := 1) 1 rfl
    rw [eo]
    have ho2 : o < 2 := by omega
    have hto4 : to < 4 := by omega
    by_cases c : o = 1 ∧ prd (G.2.2.1 a) = false
    · refine lce W (X9_modify W.1 (nI o) (nI a) (nI to)) ((mod_ok ho2 ha hto4).trans (if_pos c)) (fun h1 W1 => ?_)
      exact Tr.pos (by decide) (Tr.neg (by decide) (Tr.pos rfl (lw438 (x := x) W1 (Or.inr ⟨Or.inr (Or.inl rfl), rfl⟩) ha hb hto hp kk)))
    · refine lc W (a := aStore G to (G.2.2.1 a ++ [96 + 16 * o])) (by rw [← (mod_ok ho2 ha hto4).trans (if_neg c)]; exact X9_modify W.1 (nI o) (nI a) (nI to)) (fun h1 W1 => ?_)
      obtain ⟨D, hd⟩ := TD.sto (Gc := G) (s := to) (m := G.2.2.1 a ++ [96 + 16 * o]) (S0 := G.2.2.1) (by simp only [List.length_append, List.length_cons, List.length_nil]; omega) rfl hh
      have go := lw438 (x := x) W1 D ha hb hto hp kk
      generalize aStore G to (G.2.2.1 a ++ [96 + 16 * o]) = z at hd go ⊢
      obtain ⟨told, G1⟩ := z
      dsimp only at hd go ⊢
      rcases hd with ⟨n, rfl, n1, n60⟩ | rfl
      · exact Tr.neg (nI_nle n1 (by omega)) (Tr.pos (nI_lt (b := 61) (by omega) (by decide)) go)
      · exact Tr.pos (by decide) (Tr.pos rfl go)
  · obtain ⟨o, ho, eo⟩ := pk_andE (x >>> ((5 : Int32) &&& 31)) (m := 1) 1 rfl
    rw [eo]
    have ho2 : o < 2 := by omega
    have hto4 : to < 4 := by omega
    refine lc W (a := aStore G to (G.2.2.1 a ++ G.2.2.1 b ++ [64 + 16 * o])) (by rw [← comb_ok ho2 ha hb hto4]; exact X9_combine W.1 (nI o) (nI a) (nI b) (nI to)) (fun h1 W1 => ?_)
    obtain ⟨D, hd⟩ := TD.sto (Gc := G) (s := to) (m := G.2.2.1 a ++ G.2.2.1 b ++ [64 + 16 * o]) (S0 := G.2.2.1) (by simp only [List.length_append, List.length_cons, List.length_nil]; omega) rfl hh
    have go := lw438 (x := x) W1 D ha hb hto hp kk
    generalize aStore G to (G.2.2.1 a ++ G.2.2.1 b ++ [64 + 16 * o]) = z at hd go ⊢
    obtain ⟨told, G1⟩ := z
    dsimp only at hd go ⊢
    rcases hd with ⟨n, rfl, n1, n60⟩ | rfl
    · exact Tr.neg (nI_nle n1 (by omega)) (Tr.pos (nI_lt (b := 61) (by omega) (by decide)) go)
    · exact Tr.pos (by decide) (Tr.pos rfl go)
  · refine c_low (n := 3) (by decide) (by decide) (fun f hf => Tr.cs (fun _ => ?_) (fun _ => ?_))
    · exact lw188 (y := y) (o := 0) W ht ha hb hto hp hf (by decide) rfl kk
    · exact lw188 (y := y) (o := 1) W ht ha hb hto hp hf (by decide) rfl kk
end LLP
theorem law_loop {h0 h : Hp} {G : St} (W : WS h0 h G) (hL : (gS h0 0).2 ≤ 260) : Tr (loopN (fun k s => f_L_law_53 k 1 s.1 s.2.1 s.2.2) 5000 ((1 : Int32), (0 : Int32), h)) (fun r h1 => r = 1 ∧ Fr (fun a => 1 ≤ a) h0 h1) := by
  refine Tr.up (N := 22) (J := fun t (x : Int32 × Int32 × Hp) => x.1 = 1 ∧ x.2.1 = nI t ∧ ∃ G, WS h0 x.2.2 G) ?_ ?_ (p := 0) ⟨rfl, rfl, G, W⟩ (Nat.zero_le _) (by omega)
  · intro t x kk ht hJ hk'
    obtain ⟨x1, x2, h1⟩ := x
    obtain ⟨ea, eb, G1, W1⟩ := hJ
    dsimp only at ea eb W1
    subst ea eb
    dsimp only
    have e2 : (2 : Int32) * nI t = nI (2 * t) := pk_mul 2 t
    have next : ∀ h2 G2, WS h0 h2 G2 → Tr (kk (1, nI (t + 1), h2)) (fun r h1 => r = 1 ∧ Fr (fun a => 1 ≤ a) h0 h1) := fun h2 G2 W2 => hk' _ ⟨rfl, rfl, G2, W2⟩
    refine Tr.neg (nI_ge (b := 22) ht (by decide)) (Tr.neg (by decide) ?_)
    rw [e2, nI_1]
    refine c_cell W1 hL (by omega) (fun x => c_cell W1 hL (by omega) (fun y => c_low (n := 4) (by decide) (by decide) (fun a ha => c_low (n := 4) (by decide) (by decide) (fun b hb => c_low (n := 3) (by decide) (by decide) (fun to hto => c_low (n := 64) (by decide) (by decide) (fun p hp => L_print W1 (fun h2 W2 => ?_)))))))
    refine Tr.cs (fun _ => c_low (n := 10) (by decide) (by decide) (fun s hs => ?_)) (fun _ => ?_)
    · exact lw146 W2 ht ha hb hto hp next
    · exact lw146 (s := 0) W2 ht ha hb hto hp next
  · intro x kk hJ
    obtain ⟨x1, x2, h1⟩ := x
    obtain ⟨ea, eb, G1, W1⟩ := hJ
    dsimp only at ea eb W1
    subst ea eb
    dsimp only
    exact Tr.pos (nI_le (b := 22) (Nat.le_refl _) (by decide)) (Tr.bz (Or.inr rfl) (Tr.ret ⟨rfl, W1.2⟩))

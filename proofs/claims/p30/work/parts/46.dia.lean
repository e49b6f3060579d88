/-! THE CLASS'S DIAGRAM of slot s: object 46 + 22 s; rows 47 low, 48 high, 49 fields, 50 depths, 51 children, 52 layer, 53 twins -/
theorem wt_dec : ∀ f, f < 3 → (if nI f = 0 then (25 : Int32) else if nI f = 1 then 5 else 1) = nI (if f = 0 then 25 else if f = 1 then 5 else 1) := by decide
theorem X9_weightOf {f : Nat} (hf : f < 3) (h : Hp) : f_X9_weightOf (nI f) h = some (nI (if f = 0 then 25 else if f = 1 then 5 else 1), h) := by
  rw [← wt_dec f hf]
  unfold f_X9_weightOf
  repeat' (first | rfl | split)
/-- the action of the fields below n -/
def aNn (p q : Nat) : Nat → Nat
  | 0 => 0
  | f + 1 => aNn p q f + (if f = 0 then 25 else if f = 1 then 5 else 1) * aE p q f
theorem aNn_le (p q : Nat) : ∀ n, n ≤ 3 → aNn p q n ≤ 100 * n := by
  intro n
  induction n with
  | zero => intro _; exact Nat.le_refl _
  | succ f ih =>
    intro hf
    have h1 := ih (by omega)
    have h2 := aE_lt p q f
    have : (if f = 0 then 25 else if f = 1 then 5 else 1) * aE p q f ≤ 25 * 4 := Nat.mul_le_mul (by split <;> (try split) <;> omega) (by omega)
    unfold aNn
    omega
theorem X9_actionFrom {p q : Nat} (hp : p < 64) (hq : q < 64) (h : Hp) : f_X9_actionFrom (nI p) (nI q) h = some (nI (aN p q), h) := by
  apply Tr.of_eq
  refine Tr.up (N := 3) (J := fun f x => x = (nI (aNn p q f), nI f, h)) ?_ ?_ (p := 0) rfl (Nat.zero_le _) (by omega)
  · intro f x kk hf hJ hk'
    subst hJ
    dsimp only
    refine Tr.neg (nI_ge (b := 3) hf (by decide)) (Tr.be (X9_valueOf hq hf h) (Tr.be (X9_weightOf hf h) (Tr.be (X9_valueOf hp hf h) ?_)))
    have hv := vlN_lt q f
    have hv2 := vlN_lt p f
    refine Tr.cs (fun c => Tr.nmx (Tr.nmx (hk' _ ?_))) (fun c => Tr.nmx (Tr.nmx (hk' _ ?_)))
    · have c := (nI_eq (by omega) (by omega)).mp c
      rw [show (4 : Int32) = nI 4 from rfl, pk_mul, nI_add, nI_1]
      have : aE p q f = 4 := if_pos c
      show _ = (nI (aNn p q f + _ * aE p q f), _, h)
      rw [this]
    · have c : ¬ vlN q f = vlN p f := fun e => c (by rw [e])
      rw [pk_mul, nI_add, nI_1]
      have : aE p q f = vlN q f := if_neg c
      show _ = (nI (aNn p q f + _ * aE p q f), _, h)
      rw [this]
  · intro x kk hJ
    subst hJ
    refine Tr.pos (nI_le (b := 3) (Nat.le_refl _) (by decide)) (Tr.ret ⟨?_, rfl⟩)
    unfold aN aNn aNn aNn aNn
    simp
section X0
variable {h : Hp} {s : Nat}
/-- the leaves so far -/
def DgL (h : Hp) (s : Nat) (L : List (Int64 × Int64)) : Prop := gI h (46 + 22 * s) 5 = nI L.length ∧ (∀ i x, L[i]? = some x → gL h (47 + 22 * s) i = x.1 ∧ gL h (48 + 22 * s) i = x.2) ∧ ∀ i, i < L.length → gI h (50 + 22 * s) i = 0
theorem X0_leafWith (L : Lay h) (hs : s < 4) {D : List (Int64 × Int64)} (G : DgL h s D) (hD : D.length ≤ 64) (a b : Int64) : f_X0_leafWith (46 + 22 * s) a b h = some (if (a, b) ∈ D then nI (ixo D (a, b)) else -1, h) := by
  apply Tr.of_eq
  refine Tr.up (N := D.length) (J := fun i x => x = nI i ∧ ∀ j, j < i → D[j]? ≠ some (a, b)) ?_ ?_ (p := 0) ⟨rfl, fun j hj => absurd hj (Nat.not_lt_zero _)⟩ (Nat.zero_le _) (by omega)
  · intro i x kk hi hJ hk'
    obtain ⟨rfl, hJ⟩ := hJ
    refine Tr.ck (Lso_46 L hs) ?_
    rw [G.1]
    refine Tr.neg (nI_ge hi (by omega)) (Tr.neg (nI_ge (b := 64) (by omega) (by decide)) (Tr.gp (Lsp_46_0 L hs) (Tr.ca (Lsa_47 L hs (by omega)) ?_)))
    have hx := List.getElem?_eq_getElem hi
    obtain ⟨g1, g2⟩ := G.2.1 i _ hx
    rw [nI_clamp (by omega), g1]
    refine Tr.cs (fun c => Tr.gp (Lsp_46_1 L hs) (Tr.ca (Lsa_48 L hs (by omega)) ?_)) (fun c => Tr.nmx (hk' _ ⟨nI_1 i, fun j hj => ?_⟩))
    · rw [g2]
      refine Tr.cs (fun c2 => Tr.ret ⟨?_, rfl⟩) (fun c2 => Tr.nmx (hk' _ ⟨nI_1 i, fun j hj => ?_⟩))
      · have e : D[i]? = some (a, b) := by
          rw [hx]
          exact congrArg some (Prod.ext ((lg_cmp_eq _ _).mp c) ((lg_cmp_eq _ _).mp c2))
        rw [if_pos (List.mem_of_getElem? e), ixo_eq e hJ]
      · by_cases e : j = i
        · subst e; rw [hx]; intro z; exact c2 ((lg_cmp_eq _ _).mpr (congrArg Prod.snd (Option.some.inj z)))
        · exact hJ j (by omega)
    · by_cases e : j = i
      · subst e; rw [hx]; intro z; exact c ((lg_cmp_eq _ _).mpr (congrArg Prod.fst (Option.some.inj z)))
      · exact hJ j (by omega)
  · intro x kk hJ
    obtain ⟨rfl, hJ⟩ := hJ
    refine Tr.ck (Lso_46 L hs) ?_
    rw [G.1]
    refine Tr.pos (nI_le (Nat.le_refl _) (by omega)) (Tr.ret ⟨?_, rfl⟩)
    rw [if_neg (fun e => ?_)]
    obtain ⟨i, hi⟩ := List.mem_iff_getElem?.mp e
    exact hJ i (List.getElem?_eq_some_iff.mp hi).1 hi
def qD (s : Nat) : Nat → Prop := fun a => 46 + 22 * s ≤ a ∧ a ≤ 52 + 22 * s
theorem X0_newLeaf (L : Lay h) (hs : s < 4) {D : List (Int64 × Int64)} (G : DgL h s D) (hD : D.length < 64) (a b : Int64) : Tr (f_X0_newLeaf (46 + 22 * s) a b h) (fun r h1 => r = nI D.length ∧ DgL h1 s (D ++ [(a, b)]) ∧ Fr (qD s) h h1 ∧ gI h1 (52 + 22 * s) = gI h (52 + 22 * s)) := by
  refine Tr.ck (Lso_46 L hs) ?_
  rw [G.1]
  refine Tr.pos (nI_lt (b := 64) hD (by decide)) (Tr.gp (Lsp_46_0 L hs) (Tr.ca (Lsa_47 L hs (by omega)) (Tr.gp (Lsp_46_1 L.sL hs) ?_)))
  rw [gI_sL, G.1]
  refine Tr.ca (Lsa_48 L.sL hs (by omega)) (Tr.nm (fun h1 e1 => ?_))
  have L1 : Lay h1 := by rw [e1]; exact L
  have g1 : gI h1 (46 + 22 * s) 5 = nI D.length := by rw [e1]; exact G.1
  refine Tr.gp (Lsp_46_3 L1 hs) ?_
  rw [g1]
  refine Tr.ca (Lsa_50 L1 hs (by omega)) (Tr.nm (fun h2 e2 => Tr.ret ?_))
  rw [nI_clamp (by omega), gI_sI_ne (by omega), g1, nI_1] at e2
  rw [nI_clamp (by omega)] at e1
  subst e2 e1
  refine ⟨by rw [gI_sI, upd_eq, nI_pred], ⟨by rw [gI_sI, upd_eq, List.length_append]; rfl, fun i x hx => ?_, fun i hi => ?_⟩, ?_, ?_⟩
  · have hlen := (List.getElem?_eq_some_iff.mp hx).1
    rw [List.length_append, List.length_singleton] at hlen
    rw [gL_sI, gL_sI, gL_sI, gL_sI, gL_sL_ne (by omega), gL_sL, gL_sL]
    by_cases e : i = D.length
    · subst e
      rw [List.getElem?_append_right (Nat.le_refl _), Nat.sub_self] at hx
      rw [upd_eq, upd_eq]
      cases hx
      exact ⟨rfl, rfl⟩
    · rw [List.getElem?_append_left (by omega)] at hx
      rw [upd_ne e, upd_ne e, gL_sL_ne (by omega)]
      exact G.2.1 i x hx
  · rw [List.length_append, List.length_singleton] at hi
    rw [gI_sI_ne (by omega), gI_sI, gI_sL, gI_sL]
    by_cases e : i = D.length
    · subst e; rw [upd_eq]
    · rw [upd_ne e]; exact G.2.2 i (by omega)
  · exact (((Fr.sL ⟨by omega, by omega⟩).tr (Fr.sL ⟨by omega, by omega⟩)).tr (Fr.sI ⟨by omega, by omega⟩)).tr (Fr.sI ⟨by omega, by omega⟩)
  · rw [gI_sI_ne (by omega), gI_sI_ne (by omega), gI_sL, gI_sL]
theorem X0_lf67 {k18 : (Int64 × Int64 × Int64 × Int32 × Hp) → Option (Int32 × Hp)} {l0 : Nat} {l1 : Int32} {l4 l6 l8 : Int64} {l10 l11 : Int32} {Q : Int32 → Hp → Prop} (k : Tr (k18 (l4, l6, l8 &&& (l8 - 1), l11 + 1, h)) Q) : Tr (f_X0_leafFor_67 k18 l0 l1 l4 l6 l8 l10 l11 h) Q := k
theorem or_ob {x : Int64} {a i : Nat} (ha : a < 64) (hi : i < 64) : bq (x ||| ob a) i = true ↔ bq x i = true ∨ i = a := by
  rw [bq_or, bq_ob a ha i hi, Bool.or_eq_true, decide_eq_true_eq]
/-- what an action set has of the outputs that are done -/
def AJ (p : Nat) (S re : Int64) (lo hi : Int64) : Prop :=
  (∀ a, a < 64 → (bq lo a = true ↔ ∃ q, q < 64 ∧ bq S q = true ∧ bq re q = false ∧ aN p q = a)) ∧ (∀ a, a < 64 → (bq hi a = true ↔ ∃ q, q < 64 ∧ bq S q = true ∧ bq re q = false ∧ aN p q = a + 64)) ∧ ∀ q, q < 64 → bq re q = true → bq S q = true
theorem AJ.fin {p : Nat} {S lo hi : Int64} (J : AJ p S 0 lo hi) : lo = actL p S ∧ hi = actH p S := by
  refine ⟨bq_eq (fun a ha => ?_), bq_eq (fun a ha => ?_)⟩
  · rw [J.1 a ha, bq_actL ha]
    exact ⟨fun ⟨q, a, b, _, d⟩ => ⟨q, a, b, d⟩, fun ⟨q, a, b, d⟩ => ⟨q, a, b, bq_0 q, d⟩⟩
  · rw [J.2.1 a ha, bq_actH ha]
    exact ⟨fun ⟨q, a, b, _, d⟩ => ⟨q, a, b, d⟩, fun ⟨q, a, b, d⟩ => ⟨q, a, b, bq_0 q, d⟩⟩
theorem AJ.step {p q : Nat} {S re lo hi : Int64} (J : AJ p S re lo hi) (hq : q < 64) (hb : bq re q = true) (h2 : ∀ j, j < q → bq re j = false) :
    AJ p S (re &&& (re - 1)) (if aN p q < 64 then lo ||| ob (aN p q) else lo) (if aN p q < 64 then hi else hi ||| ob (aN p q - 64)) := by
  have hr := low_rest hq hb h2
  have hlt := aN_lt p q
  have key : ∀ x, x < 64 → (bq (re &&& (re - 1)) x = false ↔ bq re x = false ∨ x = q) := fun x hx => by
    rw [hr x hx]
    by_cases e : x = q
    · subst e; simp
    · cases bq re x <;> simp [e]
  refine ⟨fun a ha => ?_, fun a ha => ?_, fun x hx h1 => ?_⟩
  · have e : bq (if aN p q < 64 then lo ||| ob (aN p q) else lo) a = true ↔ bq lo a = true ∨ a = aN p q := by
      split
      · rename_i c; exact or_ob c ha
      · rename_i c; exact ⟨Or.inl, fun x => x.elim id (fun y => by omega)⟩
    rw [e, J.1 a ha]
    constructor
    · rintro (⟨x, x1, x2, x3, x4⟩ | x)
      · exact ⟨x, x1, x2, (key x x1).mpr (Or.inl x3), x4⟩
      · exact ⟨q, hq, J.2.2 q hq hb, (key q hq).mpr (Or.inr rfl), x.symm⟩
    · rintro ⟨x, x1, x2, x3, x4⟩
      rcases (key x x1).mp x3 with c | c
      · exact Or.inl ⟨x, x1, x2, c, x4⟩
      · subst c; exact Or.inr x4.symm
  · have e : bq (if aN p q < 64 then hi else hi ||| ob (aN p q - 64)) a = true ↔ bq hi a = true ∨ a + 64 = aN p q := by
      split
      · rename_i c; exact ⟨Or.inl, fun x => x.elim id (fun y => by omega)⟩
      · rename_i c
        rw [or_ob (by omega) ha]
        exact ⟨fun x => x.imp id (fun y => by omega), fun x => x.imp id (fun y => by omega)⟩
    rw [e, J.2.1 a ha]
    constructor
    · rintro (⟨x, x1, x2, x3, x4⟩ | x)
      · exact ⟨x, x1, x2, (key x x1).mpr (Or.inl x3), x4⟩
      · exact ⟨q, hq, J.2.2 q hq hb, (key q hq).mpr (Or.inr rfl), x.symm⟩
    · rintro ⟨x, x1, x2, x3, x4⟩
      rcases (key x x1).mp x3 with c | c
      · exact Or.inl ⟨x, x1, x2, c, x4⟩
      · subst c; exact Or.inr x4.symm
  · rw [hr x hx, Bool.and_eq_true] at h1
    exact J.2.2 x hx h1.1
theorem X0_leafFor (L : Lay h) (hs : s < 4) {D : List (Int64 × Int64)} (G : DgL h s D) {p : Nat} {S : Int64} (hp : p < 64) (hD : D.length < 64) : Tr (f_X0_leafFor (46 + 22 * s) (nI p) S h) (fun r h1 => r = nI (ixo (insA D (actL p S, actH p S)) (actL p S, actH p S)) ∧ DgL h1 s (insA D (actL p S, actH p S)) ∧ Fr (qD s) h h1 ∧ gI h1 (52 + 22 * s) = gI h (52 + 22 * s)) := by
  refine Tr.be (bitCount_eq S h) ?_
  obtain ⟨N, hN, hC⟩ := Cnt.mk S
  rw [hC.pop]
  refine Tr.up (N := N) (J := fun k x => x.2.2.2.1 = nI k ∧ x.2.2.2.2 = h ∧ (∃ c, Cnt x.2.2.1 c ∧ c + k = N) ∧ AJ p S x.2.2.1 x.1 x.2.1) ?_ ?_ (p := 0) ⟨rfl, rfl, ?_, ?_⟩ (Nat.zero_le _) (by omega)
  · intro k x kk hi hJ hk'
    obtain ⟨lo, hg, re, k0, h1⟩ := x
    obtain ⟨e1, e2, ⟨c, e3, e5⟩, J⟩ := hJ
    dsimp only at e1 e2 e3 J
    subst e1 e2
    dsimp only
    refine Tr.neg (nI_ge hi (by omega)) (Tr.be (lowestOf_eq re h1) ?_)
    have hne : re ≠ 0 := e3.ne (by omega)
    obtain ⟨q, hq, hb1, hb2⟩ := set_first hne
    rw [lowF_eq hq hb1 hb2]
    refine Tr.be (X9_actionFrom hp hq h1) ?_
    have hlt := aN_lt p q
    have J2 := J.step hq hb1 hb2
    obtain ⟨d, d1, d2⟩ := e3.out hq hb1 (low_rest hq hb1 hb2)
    by_cases c64 : aN p q < 64
    · rw [if_pos c64, if_pos c64] at J2
      refine Tr.neg (nI_ge (b := 64) c64 (by decide)) (Tr.nmx (X0_lf67 (hk' _ ⟨nI_1 k, rfl, ?_, J2⟩)))
      exact ⟨d, d1, by omega⟩
    · rw [if_neg c64, if_neg c64] at J2
      refine Tr.pos (nI_le (a := 64) (by omega) (by omega)) (Tr.nmx ?_)
      have es : nI (aN p q) - (64 : Int32) = nI (aN p q - 64) := pk_sub (a := aN p q) (b := 64) (by omega)
      rw [es]
      refine X0_lf67 (hk' _ ⟨nI_1 k, rfl, ?_, J2⟩)
      exact ⟨d, d1, by omega⟩
  · intro x kk hJ
    obtain ⟨lo, hg, re, k0, h1⟩ := x
    obtain ⟨e1, e2, ⟨c, e3, e5⟩, J⟩ := hJ
    dsimp only at e1 e2 e3 J
    subst e1 e2
    dsimp only
    have hz : re = 0 := bq_nz.mpr (Cnt.z (x := re) (by rw [show c = 0 by omega] at e3; exact e3))
    rw [hz] at J
    obtain ⟨f1, f2⟩ := J.fin
    rw [f1, f2]
    refine Tr.pos (nI_le (Nat.le_refl _) (by omega)) (Tr.ck (Lso_46 L hs) (Tr.be (X0_leafWith L hs G (by omega) _ _) ?_))
    by_cases hm : (actL p S, actH p S) ∈ D
    · have hx := ixo_lt hm
      rw [if_pos hm]
      have hins : insA D (actL p S, actH p S) = D := if_pos hm
      rw [hins]
      exact Tr.neg (fun e => nI_pos (n := ixo D (actL p S, actH p S)) (by omega) (by rw [e]; decide)) (Tr.ret ⟨rfl, G, Fr.rf, rfl⟩)
    · rw [if_neg hm]
      have hins : insA D (actL p S, actH p S) = D ++ [(actL p S, actH p S)] := if_neg hm
      rw [hins, ixo_snoc hm]
      exact Tr.pos rfl (Tr.ck (Lso_46 L hs) (Tr.bd (X0_newLeaf L hs G hD _ _) (fun r h2 q => Tr.ret q)))
  · exact ⟨N, hC, rfl⟩
  · refine ⟨fun a ha => ⟨fun z => (by rw [bq_0] at z; cases z), fun ⟨q, _, q2, q3, _⟩ => (by rw [q2] at q3; cases q3)⟩, fun a ha => ⟨fun z => (by rw [bq_0] at z; cases z), fun ⟨q, _, q2, q3, _⟩ => (by rw [q2] at q3; cases q3)⟩, fun q _ z => z⟩
end X0

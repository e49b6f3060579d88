/-! THE REFERENCE: a row's operands -/
theorem Stk.drop {α : Type} {v : α → Int32} {f : Nat → Int32} : ∀ (a : Nat) {t : List α}, Stk v f t → Stk v f (t.drop a) := by
  intro a
  induction a with
  | zero => intro t h; exact h
  | succ a ih =>
    intro t h
    cases t with
    | nil => exact h
    | cons x t => exact ih h.2
theorem Stk.get {α : Type} {v : α → Int32} {f : Nat → Int32} : ∀ {t : List α} (i : Nat) (hi : i < t.length), Stk v f t → f (t.length - 1 - i) = v t[i] := by
  intro t
  induction t with
  | nil => intro i hi; exact absurd hi (Nat.not_lt_zero _)
  | cons x t ih =>
    intro i hi h
    cases i with
    | zero => exact h.1
    | succ i =>
      rw [List.length_cons] at hi ⊢
      have := ih i (by omega) h.2
      rw [show t.length + 1 - 1 - (i + 1) = t.length - 1 - i by omega]
      exact this
/-- the operand j (the first is 0) of node m -/
def opV (c : Nat → Nat) (m j : Nat) : Int32 := if j < ar (c m) then nI (opj c m (ar (c m) - 1 - j)) else -1
def OpA (h : Hp) (c : Nat → Nat) (n : Nat) : Prop := ∀ m, m < n → gI h 134 m = opV c m 0 ∧ gI h 135 m = opV c m 1 ∧ gI h 136 m = opV c m 2
/-- the work on printing: its cells; of 123 only fields 21, 23 change -/
def gW : Nat → Prop := fun a => a = 123 ∨ (134 ≤ a ∧ a ≤ 138)
def GFr (h h1 : Hp) : Prop := Fr gW h h1 ∧ ∀ i, i ≠ 21 → i ≠ 23 → gI h1 123 i = gI h 123 i
theorem GFr.rf {h : Hp} : GFr h h := ⟨Fr.rf, fun _ _ _ => rfl⟩
theorem GFr.tr {h h1 h2 : Hp} (a : GFr h h1) (b : GFr h1 h2) : GFr h h2 := ⟨a.1.tr b.1, fun i x y => by rw [b.2 i x y, a.2 i x y]⟩
theorem GFr.mA {h h1 : Hp} (K : GFr h h1) : Fr mA h h1 := K.1.wk (fun a x => by unfold gW at x; show 123 ≤ a; omega)
theorem GFr.mi {G : St} {h h1 : Hp} (K : GFr h h1) (M : MI h G) : MI h1 G := M.wk (K.1.wk (fun a x => by unfold gW at x; unfold mW; omega)) (K.2 2 (by decide) (by decide)) (K.2 5 (by decide) (by decide))
theorem GFr.c {h : Hp} {a k : Nat} {v : Int32} (h1 : 134 ≤ a) (h2 : a ≤ 138) : GFr h (sI h a k v) := ⟨Fr.sI (Or.inr ⟨h1, h2⟩), fun i _ _ => by rw [gI_sI_ne (by omega)]⟩
theorem GFr.f {h : Hp} {k : Nat} {v : Int32} (hk : k = 21 ∨ k = 23) : GFr h (sI h 123 k v) := ⟨Fr.sI (Or.inl rfl), fun i x y => by rw [gI_sI, upd_ne (by omega)]⟩
section REF
variable {h : Hp} {G : St}
theorem X10_lo145 (L : Lay h) {k m : Nat} {x : Int32} {kk : Int32 × Hp → Option (Unit × Hp)} {Q : Unit → Hp → Prop} (hk : k < 60) (hm : m < 1000) (e : gI h 123 21 = nI m) {l1 : Int32} (fin : Tr (kk (nI (k + 1), sI (sI (sI h 136 k x) 137 m (nI k)) 123 21 (nI (m + 1)))) Q) : Tr (f_X10_laysOperands_145 kk 123 l1 (nI k) 136 (nI k) x h) Q := by
  refine Tr.ca (La_136 L hk) (Tr.ck (Lo_123 L.sI) (Tr.gp (Lp_123_20 L.sI) ?_))
  rw [nI_clamp (by omega), gI_sI_ne (by decide), e]
  refine Tr.ca (La_137 L.sI hm) (Tr.nmx (Tr.nmx ?_))
  rw [nI_clamp (by omega), gI_sI_ne (by decide), gI_sI_ne (by decide), e, nI_1, nI_1]
  exact fin
theorem X10_lo55 (L : Lay h) {c : Nat → Nat} {k a : Nat} {kk : Int32 × Hp → Option (Unit × Hp)} {Q : Unit → Hp → Prop} {l1 : Int32} (hk : k < 60) (ha : a = ar (c k)) (ok : ar (c k) ≤ (rt c k).length) (e : gI h 123 21 = nI (rt c k).length) (S : Stk nI (gI h 137) (rt c k))
    (fin : Tr (kk (nI (k + 1), sI (sI (sI (sI (sI (sI h 123 21 (nI ((rt c k).length - a))) 134 k (opV c k 0)) 135 k (opV c k 1)) 136 k (opV c k 2)) 137 ((rt c k).length - a) (nI k)) 123 21 (nI ((rt c k).length - a + 1)))) Q) : Tr (f_X10_laysOperands_55 kk 123 l1 (nI k) (nI a) h) Q := by
  have a3 := ar_le (c k)
  have rl := rt_len_le c k
  have hm : (rt c k).length - a < 1000 := by omega
  have opj_at : ∀ j, j < a → gI h 137 ((rt c k).length - a + j) = opV c k j := by
    intro j hj
    unfold opV
    rw [if_pos (by omega), opj_eq (c := c) (k := k) (i := ar (c k) - 1 - j) (by omega)]
    have := S.get (ar (c k) - 1 - j) (by omega)
    rw [← this]
    congr 1
    omega
  have opV_no : ∀ j, a ≤ j → opV c k j = -1 := fun j hj => by unfold opV; rw [if_neg (by omega)]
  refine Tr.ck (Lo_123 L) ?_
  rw [e, pk_sub (by omega)]
  generalize hm2 : (rt c k).length - a = m at hm opj_at fin ⊢
  have L0 : Lay (sI h 123 21 (nI m)) := L
  have e0 : gI (sI h 123 21 (nI m)) 123 21 = nI m := by rw [gI_sI, upd_eq]
  have p0 : gI (sI h 123 21 (nI m)) 137 = gI h 137 := gI_sI_ne (by decide)
  generalize sI h 123 21 (nI m) = h0 at L0 e0 p0 fin ⊢
  have L1 : ∀ {x : Int32}, Lay (sI h0 134 k x) := fun {x} => L0
  have L2 : ∀ {x y : Int32}, Lay (sI (sI h0 134 k x) 135 k y) := fun {x y} => L0
  have g3 : ∀ x y : Int32, gI (sI (sI h0 134 k x) 135 k y) 123 21 = nI m := fun x y => by rw [gI_sI_ne (by decide), gI_sI_ne (by decide)]; exact e0
  have g137 : ∀ x y : Int32, gI (sI (sI h0 134 k x) 135 k y) 137 = gI h 137 := fun x y => by rw [gI_sI_ne (by decide), gI_sI_ne (by decide)]; exact p0
  have s3 : ∀ x y, x = opV c k 0 → y = opV c k 1 → Tr (f_X10_laysOperands_118 kk 123 l1 (nI k) (nI a) 135 (nI k) y (sI h0 134 k x)) Q := by
    intro x y ex ey
    subst ex ey
    have LL : Lay (sI (sI h0 134 k (opV c k 0)) 135 k (opV c k 1)) := L0
    refine Tr.ca (La_135 L1 hk) (Tr.ck (Lo_123 LL) (Tr.gp (Lp_123_19 LL) ?_))
    rw [nI_clamp (by omega)]
    by_cases c2 : a ≤ 2
    · refine Tr.pos (nI_le (b := 2) c2 (by decide)) (X10_lo145 LL hk hm (g3 _ _) ?_)
      rw [opV_no 2 c2] at fin
      exact fin
    · refine Tr.neg (nI_ge (a := 2) (b := a) (by omega) (by omega)) (Tr.gp (Lp_123_20 LL) ?_)
      rw [g3, show nI m + (2 : Int32) = nI (m + 2) from nI_add _ _]
      refine Tr.ca (La_137 LL (by omega)) ?_
      rw [nI_clamp (by omega), g137, opj_at 2 (by omega)]
      exact X10_lo145 LL hk hm (g3 _ _) fin
  have s2 : ∀ x, x = opV c k 0 → Tr (f_X10_laysOperands_91 kk 123 l1 (nI k) (nI a) 134 (nI k) x h0) Q := by
    intro x ex
    have g1 : gI (sI h0 134 k x) 123 21 = nI m := by rw [gI_sI_ne (by decide)]; exact e0
    refine Tr.ca (La_134 L0 hk) (Tr.ck (Lo_123 L0.sI) (Tr.gp (Lp_123_18 L0.sI) ?_))
    rw [nI_clamp (by omega)]
    by_cases c2 : a ≤ 1
    · exact Tr.pos (nI_le (b := 1) c2 (by decide)) (s3 _ _ ex (opV_no 1 c2).symm)
    · refine Tr.neg (nI_ge (a := 1) (b := a) (by omega) (by omega)) (Tr.gp (Lp_123_20 L0.sI) ?_)
      rw [g1, nI_1]
      refine Tr.ca (La_137 L0.sI (by omega)) ?_
      rw [nI_clamp (by omega), gI_sI_ne (by decide), p0, opj_at 1 (by omega)]
      exact s3 _ _ ex rfl
  refine Tr.gp (Lp_123_17 L0) ?_
  by_cases c2 : a ≤ 0
  · exact Tr.pos (nI_le (b := 0) c2 (by decide)) (s2 _ (opV_no 0 c2).symm)
  · refine Tr.neg (nI_ge (a := 0) (b := a) (by omega) (by omega)) (Tr.gp (Lp_123_20 L0) ?_)
    rw [e0]
    refine Tr.ca (La_137 L0 (by omega)) ?_
    rw [nI_clamp (by omega), p0]
    have := opj_at 0 (by omega)
    rw [Nat.add_zero] at this
    rw [this]
    exact s2 _ rfl
theorem X10_laysOperands (M : MI h G) {s : Nat} (hs : s < 4) : Tr (f_X10_laysOperands 123 (nI s) h) (fun _ h1 => OpA h1 (cf (G.2.2.1 s)) (G.2.2.1 s).length ∧ GFr h h1) := by
  have L := M.1
  have W := (M.slot hs).1
  have h60 := W.2.2.1
  refine Tr.ck (Lo_123 L) ?_
  refine Tr.up (N := (G.2.2.1 s).length) (J := fun k x => x.1 = nI k ∧ gI x.2 123 21 = nI (rt (cf (G.2.2.1 s)) k).length ∧ Stk nI (gI x.2 137) (rt (cf (G.2.2.1 s)) k) ∧ OpA x.2 (cf (G.2.2.1 s)) k ∧ GFr h x.2) ?_ ?_ (p := 0) ⟨rfl, by rw [gI_sI, upd_eq]; rfl, trivial, fun m hm => absurd hm (Nat.not_lt_zero _), GFr.f (Or.inl rfl)⟩ (Nat.zero_le _) (by omega)
  · intro k x kk hk hJ hk'
    obtain ⟨x1, h1⟩ := x
    obtain ⟨e, e21, S, O, F⟩ := hJ
    dsimp only at e e21 S O F
    subst e
    dsimp only
    have M1 := F.mi M
    have L1 := M1.1
    have ok := W.1 k hk
    have hv : vcd (cf (G.2.2.1 s) k) = true := W.2.2.2 _ (gD_mem _ _ hk)
    have rl := rt_len_le (cf (G.2.2.1 s)) k
    have a3 := ar_le (cf (G.2.2.1 s) k)
    refine Tr.ck (Lo_123 L1) (Tr.gp (Lp_123_0 L1) (Tr.ca (La_124 L1 (by omega)) ?_))
    rw [nI_clamp (by omega), (M1.slot hs).2.1]
    refine Tr.neg (nI_ge (b := (G.2.2.1 s).length) hk (by omega)) (Tr.be (X10_signOf M1 hs hk) ?_)
    have go : ∀ y, y = nI (ar (cf (G.2.2.1 s) k)) → Tr (f_X10_laysOperands_55 kk 123 (nI s) (nI k) y h1) (fun _ h1 => OpA h1 (cf (G.2.2.1 s)) (G.2.2.1 s).length ∧ GFr h h1) := by
      intro y ey
      subst ey
      refine X10_lo55 L1 (by omega) rfl ok e21 S (hk' _ ⟨rfl, ?_, ?_, fun m hm => ?_, ?_⟩)
      · dsimp only
        rw [gI_sI, upd_eq]
        show _ = nI (k :: (rt (cf (G.2.2.1 s)) k).drop (ar (cf (G.2.2.1 s) k))).length
        rw [List.length_cons, List.length_drop]
      · dsimp only
        rw [gI_sI_ne (by decide), gI_sI, gI_sI_ne (by decide), gI_sI_ne (by decide), gI_sI_ne (by decide), gI_sI_ne (by decide)]
        have := (S.drop (ar (cf (G.2.2.1 s) k))).push k
        rw [List.length_drop] at this
        exact this
      · dsimp only
        have o := O m
        rw [gI_sI_ne (by decide), gI_sI_ne (by decide), gI_sI_ne (by decide), gI_sI_ne (by decide), gI_sI, gI_sI_ne (by decide)]
        rw [gI_sI_ne (a := 123) (b := 135) (by decide), gI_sI_ne (a := 137) (b := 135) (by decide), gI_sI_ne (a := 136) (b := 135) (by decide), gI_sI, gI_sI_ne (a := 134) (b := 135) (by decide), gI_sI_ne (a := 123) (b := 135) (by decide)]
        rw [gI_sI_ne (a := 123) (b := 136) (by decide), gI_sI_ne (a := 137) (b := 136) (by decide), gI_sI, gI_sI_ne (a := 135) (b := 136) (by decide), gI_sI_ne (a := 134) (b := 136) (by decide), gI_sI_ne (a := 123) (b := 136) (by decide)]
        by_cases c : m = k
        · subst c; rw [upd_eq, upd_eq, upd_eq]; exact ⟨rfl, rfl, rfl⟩
        · rw [upd_ne c, upd_ne c, upd_ne c]; exact o (by omega)
      · exact ((((((F.tr (GFr.f (Or.inl rfl))).tr (GFr.c (by decide) (by decide))).tr (GFr.c (by decide) (by decide))).tr (GFr.c (by decide) (by decide))).tr (GFr.c (by decide) (by decide))).tr (GFr.f (Or.inl rfl)))
    generalize cf (G.2.2.1 s) k = c at go hv ⊢
    rcases vcd_sg hv with ⟨ec, eg⟩ | ⟨ec, eg⟩ | ⟨ec, ed, eg⟩ | ⟨ec, ed, eg⟩ | ⟨ec, eg⟩ | ⟨ec, eg⟩ | ⟨ec, eg⟩ | ⟨ec, eg⟩ | ⟨ec, eg⟩
    · rw [eg]; exact Tr.neg (by decide) (go _ (by rw [ec]; rfl))
    · rw [eg]; exact Tr.neg (by decide) (go _ (by rw [ec]; rfl))
    · rw [eg]; exact Tr.neg (nI_ge (b := 50) (by omega) (by decide)) (go _ (by unfold ar; rw [if_pos (by omega)]; rfl))
    · rw [eg]; exact Tr.neg (nI_ge (b := 50) (by omega) (by decide)) (go _ (by unfold ar; rw [if_pos (by omega)]; rfl))
    · rw [eg]; exact Tr.pos (by decide) (Tr.neg (by decide) (go _ (by rw [ec]; rfl)))
    · rw [eg]; exact Tr.pos (by decide) (Tr.neg (by decide) (go _ (by rw [ec]; rfl)))
    · rw [eg]; exact Tr.pos (by decide) (Tr.pos (by decide) (Tr.neg (by decide) (go _ (by rw [ec]; rfl))))
    · rw [eg]; exact Tr.pos (by decide) (Tr.pos (by decide) (Tr.neg (by decide) (go _ (by rw [ec]; rfl))))
    · rw [eg]; exact Tr.pos (by decide) (Tr.pos (by decide) (Tr.pos (by decide) (go _ (by rw [ec]; rfl))))
  · intro x kk hJ
    obtain ⟨x1, h1⟩ := x
    obtain ⟨e, e21, S, O, F⟩ := hJ
    dsimp only at e e21 S O F
    subst e
    dsimp only
    have M1 := F.mi M
    have L1 := M1.1
    refine Tr.ck (Lo_123 L1) (Tr.gp (Lp_123_0 L1) (Tr.ca (La_124 L1 (by omega)) ?_))
    rw [nI_clamp (by omega), (M1.slot hs).2.1]
    exact Tr.pos (nI_le (b := (G.2.2.1 s).length) (Nat.le_refl _) (by omega)) (Tr.ret ⟨O, F⟩)
end REF

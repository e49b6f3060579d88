/-! THE REFERENCE: leaves of diagrams -/
def aNh (p q : Nat) : Nat → Nat
  | 0 => 0
  | f + 1 => 5 * aNh p q f + aE p q f
theorem X10_actionOf {p q : Nat} (hp : p < 64) (hq : q < 64) (h : Hp) : f_X10_actionOf (nI p) (nI q) h = some (nI (aN p q), h) := by
  apply Tr.of_eq
  refine Tr.up (N := 3) (J := fun f x => x = (nI (aNh p q f), nI f, h)) ?_ ?_ (p := 0) rfl (Nat.zero_le _) (by omega)
  · intro f x kk hf hJ hk'
    subst hJ
    dsimp only
    refine Tr.neg (nI_ge (b := 3) hf (by decide)) (Tr.be (X10_valueOf hp hf h) (Tr.be (X10_valueOf hq hf h) ?_))
    have hv := vlN_lt q f
    have hv2 := vlN_lt p f
    refine Tr.cs (fun c => Tr.nmx (Tr.nmx (hk' _ ?_))) (fun c => Tr.be (X10_valueOf hq hf h) (Tr.nmx (Tr.nmx (hk' _ ?_))))
    · have c := (nI_eq (by omega) (by omega)).mp c
      rw [show (5 : Int32) = nI 5 from rfl, show (4 : Int32) = nI 4 from rfl, pk_mul, nI_add, nI_1]
      have : aE p q f = 4 := if_pos c.symm
      show _ = (nI (5 * aNh p q f + aE p q f), _, h)
      rw [this]
    · have c : ¬ vlN q f = vlN p f := fun e => c (by rw [e])
      rw [show (5 : Int32) = nI 5 from rfl, pk_mul, nI_add, nI_1]
      have : aE p q f = vlN q f := if_neg c
      show _ = (nI (5 * aNh p q f + aE p q f), _, h)
      rw [this]
  · intro x kk hJ
    subst hJ
    refine Tr.pos (nI_le (b := 3) (Nat.le_refl _) (by decide)) (Tr.ret ⟨?_, rfl⟩)
    have e : aNh p q 3 = aN p q := by
      show 5 * (5 * (5 * 0 + aE p q 0) + aE p q 1) + aE p q 2 = 25 * aE p q 0 + 5 * aE p q 1 + aE p q 2
      omega
    rw [e]
def RfL (h : Hp) (D : List (Int64 × Int64)) : Prop := gI h 123 31 = nI D.length ∧ ∀ i x, D[i]? = some x → gL h 143 i = x.1 ∧ gL h 144 i = x.2
def lW : Nat → Prop := fun a => a = 123 ∨ a = 143 ∨ a = 144
/-- the actions for the outputs below n -/
def AK (p : Nat) (S : Int64) (n : Nat) (lo hi : Int64) : Prop :=
  (∀ a, a < 64 → (bq lo a = true ↔ ∃ q, q < n ∧ bq S q = true ∧ aN p q = a)) ∧ (∀ a, a < 64 → (bq hi a = true ↔ ∃ q, q < n ∧ bq S q = true ∧ aN p q = a + 64))
theorem AK.fin {p : Nat} {S lo hi : Int64} (J : AK p S 64 lo hi) : lo = actL p S ∧ hi = actH p S :=
  ⟨bq_eq (fun a ha => by rw [J.1 a ha, bq_actL ha]), bq_eq (fun a ha => by rw [J.2 a ha, bq_actH ha])⟩
theorem AK.skip {p n : Nat} {S lo hi : Int64} (J : AK p S n lo hi) (hb : ¬ bq S n = true) : AK p S (n + 1) lo hi := by
  have key : ∀ y, (∃ q, q < n + 1 ∧ bq S q = true ∧ aN p q = y) ↔ ∃ q, q < n ∧ bq S q = true ∧ aN p q = y := fun y => by
    constructor
    · rintro ⟨q, q1, q2, q3⟩
      by_cases e : q = n
      · subst e; exact absurd q2 hb
      · exact ⟨q, by omega, q2, q3⟩
    · rintro ⟨q, q1, q2, q3⟩; exact ⟨q, by omega, q2, q3⟩
  exact ⟨fun a ha => (J.1 a ha).trans (key a).symm, fun a ha => (J.2 a ha).trans (key (a + 64)).symm⟩
theorem AK.step {p n : Nat} {S lo hi lo2 hi2 : Int64} (J : AK p S n lo hi) (hb : bq S n = true) (h1 : ∀ a, a < 64 → (bq lo2 a = true ↔ bq lo a = true ∨ aN p n = a)) (h2 : ∀ a, a < 64 → (bq hi2 a = true ↔ bq hi a = true ∨ aN p n = a + 64)) : AK p S (n + 1) lo2 hi2 := by
  have key : ∀ y, (∃ q, q < n + 1 ∧ bq S q = true ∧ aN p q = y) ↔ (∃ q, q < n ∧ bq S q = true ∧ aN p q = y) ∨ aN p n = y := fun y => by
    constructor
    · rintro ⟨q, q1, q2, q3⟩
      by_cases e : q = n
      · subst e; exact Or.inr q3
      · exact Or.inl ⟨q, by omega, q2, q3⟩
    · rintro (⟨q, q1, q2, q3⟩ | e)
      · exact ⟨q, by omega, q2, q3⟩
      · exact ⟨n, by omega, hb, e⟩
  refine ⟨fun a ha => ?_, fun a ha => ?_⟩
  · rw [h1 a ha, key, J.1 a ha]
  · rw [h2 a ha, key, J.2 a ha]
section REF
variable {h : Hp}
def LfQ (h : Hp) (D : List (Int64 × Int64)) (x : Int64 × Int64) : Int32 → Hp → Prop := fun r h1 => r = nI (ixo (insA D x) x) ∧ RfL h1 (insA D x) ∧ Fr lW h h1 ∧ ∀ i, i ≠ 31 → gI h1 123 i = gI h 123 i
theorem X10_lf129 (L : Lay h) {D : List (Int64 × Int64)} (R : RfL h D) (hD : D.length < 128) {a b : Int64} : Tr (f_X10_leafOf_129 123 a b (nI (ixo D (a, b))) h) (LfQ h D (a, b)) := by
  have hle := ixo_le D (a, b)
  obtain ⟨r1, r2⟩ := R
  generalize hj : ixo D (a, b) = j at hle
  refine Tr.ck (Lo_123 L) (Tr.gp (Lp_123_29 L) (Tr.ca (La_143 L (by omega)) ?_))
  rw [nI_clamp (by omega)]
  refine Tr.gp (Lp_123_30 L.sL) (Tr.ca (La_144 L.sL (by omega)) ?_)
  rw [gI_sL, gI_sL, r1]
  have F : Fr lW h (sL (sL h 143 j a) 144 j b) := (Fr.sL (Or.inr (Or.inl rfl))).tr (Fr.sL (Or.inr (Or.inr rfl)))
  have g3 : gL (sL (sL h 143 j a) 144 j b) 143 = va_up (gL h 143) j a := by rw [gL_sL_ne (by decide), gL_sL]
  have g4 : gL (sL (sL h 143 j a) 144 j b) 144 = va_up (gL h 144) j b := by rw [gL_sL, gL_sL_ne (by decide)]
  have g123 : gI (sL (sL h 143 j a) 144 j b) 123 = gI h 123 := rfl
  by_cases hm : (a, b) ∈ D
  · have hlt := ixo_lt hm
    have hg := ixo_get hm
    rw [hj] at hlt hg
    have hins : insA D (a, b) = D := if_pos hm
    refine Tr.neg (nI_ne (b := D.length) (by omega) (by omega) (by omega)) (Tr.nmx (Tr.ret ⟨by rw [hins, hj], ⟨by rw [gI_sI, upd_eq, hins], fun i x hx => ?_⟩, F.tr (Fr.sI (Or.inl rfl)), fun i hi => by rw [gI_sI, upd_ne hi, g123]⟩))
    rw [hins] at hx
    rw [gL_sI, gL_sI, g3, g4]
    by_cases c : i = j
    · subst c
      rw [hg] at hx
      cases hx
      rw [upd_eq, upd_eq]; exact ⟨rfl, rfl⟩
    · rw [upd_ne c, upd_ne c]; exact r2 i x hx
  · have he := ixo_out hm
    rw [hj] at he
    subst he
    have hins : insA D (a, b) = D ++ [(a, b)] := if_neg hm
    refine Tr.pos rfl ?_
    rw [nI_1]
    refine Tr.nmx (Tr.ret ⟨by rw [hins, ixo_snoc hm], ⟨by rw [gI_sI, upd_eq, hins, List.length_append]; rfl, fun i x hx => ?_⟩, F.tr (Fr.sI (Or.inl rfl)), fun i hi => by rw [gI_sI, upd_ne hi, g123]⟩)
    rw [hins] at hx
    rw [gL_sI, gL_sI, g3, g4]
    by_cases c : i = D.length
    · subst c
      rw [List.getElem?_append_right (Nat.le_refl _), Nat.sub_self] at hx
      cases hx
      rw [upd_eq, upd_eq]; exact ⟨rfl, rfl⟩
    · have hi := (List.getElem?_eq_some_iff.mp hx).1
      rw [List.length_append, List.length_singleton] at hi
      rw [List.getElem?_append_left (by omega)] at hx
      rw [upd_ne c, upd_ne c]; exact r2 i x hx
theorem X10_lf89 (L : Lay h) {D : List (Int64 × Int64)} (R : RfL h D) (hD : D.length < 128) {a b : Int64} : Tr (loopN (fun k s => f_X10_leafOf_89 k 123 a b s h) 5000 (0 : Int32)) (LfQ h D (a, b)) := by
  have hle := ixo_le D (a, b)
  refine Tr.up (N := ixo D (a, b)) (J := fun i x => x = nI i) ?_ ?_ (p := 0) rfl (Nat.zero_le _) (by omega)
  · intro i x kk hi hJ hk'
    subst hJ
    have hno := ixo_no hi
    have hx := List.getElem?_eq_getElem (show i < D.length by omega)
    obtain ⟨g1, g2⟩ := R.2 i _ hx
    refine Tr.ck (Lo_123 L) ?_
    rw [R.1]
    refine Tr.neg (nI_ge (b := D.length) (by omega) (by omega)) (Tr.gp (Lp_123_29 L) (Tr.ca (La_143 L (by omega)) ?_))
    rw [nI_clamp (by omega), g1]
    refine Tr.cs (fun c => Tr.gp (Lp_123_30 L) (Tr.ca (La_144 L (by omega)) ?_)) (fun c => Tr.nmx (hk' _ (nI_1 i)))
    rw [g2]
    refine Tr.neg (fun c2 => hno ?_) (Tr.nmx (hk' _ (nI_1 i)))
    rw [hx]
    exact congrArg some (Prod.ext ((lg_cmp_eq _ _).mp c) ((lg_cmp_eq _ _).mp c2))
  · intro x kk hJ
    subst hJ
    refine Tr.ck (Lo_123 L) ?_
    rw [R.1]
    have f129 := X10_lf129 L R hD (a := a) (b := b)
    by_cases hm : (a, b) ∈ D
    · have hlt := ixo_lt hm
      obtain ⟨g1, g2⟩ := R.2 _ _ (ixo_get hm)
      refine Tr.neg (nI_ge (b := D.length) hlt (by omega)) (Tr.gp (Lp_123_29 L) (Tr.ca (La_143 L (by omega)) ?_))
      rw [nI_clamp (by omega), g1]
      refine Tr.pos ((lg_cmp_eq _ _).mpr rfl) (Tr.gp (Lp_123_30 L) (Tr.ca (La_144 L (by omega)) ?_))
      rw [g2]
      exact Tr.pos ((lg_cmp_eq _ _).mpr rfl) f129
    · have he := ixo_out hm
      exact Tr.pos (by rw [he]; exact nI_le (Nat.le_refl _) (by omega)) f129
theorem X10_lf55 {k8 : (Int64 × Int64 × Int32 × Hp) → Option (Int32 × Hp)} {l0 : Nat} {l1 : Int32} {p q : Nat} {S lo hi s1 : Int64} {Q : Int32 → Hp → Prop} (hq : q < 64) (J : AK p S q lo hi) (hb : bq S q = true) (e1 : s1 = if aN p q < 64 then ob (aN p q) else 0) (fin : ∀ lo2 hi2, AK p S (q + 1) lo2 hi2 → Tr (k8 (lo2, hi2, nI (q + 1), h)) Q) : Tr (f_X10_leafOf_55 k8 l0 l1 hi (nI q) (nI (aN p q)) lo s1 h) Q := by
  have hlt := aN_lt p q
  subst e1
  refine Tr.nmx ?_
  by_cases c : aN p q < 64
  · rw [if_pos c]
    refine Tr.neg (nI_ge (b := 64) c (by decide)) (Tr.nmx (Tr.nmx ?_))
    rw [nI_1]
    refine fin _ _ (J.step hb (fun a ha => ?_) (fun a ha => ?_))
    · rw [or_ob c ha]
      exact ⟨fun z => z.imp id (fun y => y.symm), fun z => z.imp id (fun y => y.symm)⟩
    · rw [bq_or, bq_0, Bool.or_false]
      exact ⟨Or.inl, fun z => z.elim id (fun y => by omega)⟩
  · rw [if_neg c]
    refine Tr.pos (nI_le (a := 64) (b := aN p q) (by omega) (by omega)) ?_
    rw [show nI (aN p q) - (64 : Int32) = nI (aN p q - 64) from pk_sub (a := aN p q) (b := 64) (by omega)]
    refine Tr.nmx (Tr.nmx ?_)
    rw [nI_1]
    refine fin _ _ (J.step hb (fun a ha => ?_) (fun a ha => ?_))
    · rw [bq_or, bq_0, Bool.or_false]
      exact ⟨Or.inl, fun z => z.elim id (fun y => by omega)⟩
    · show bq (hi ||| ob (aN p q - 64)) a = true ↔ _
      rw [or_ob (by omega) ha]
      exact ⟨fun z => z.imp id (fun y => by omega), fun z => z.imp id (fun y => by omega)⟩
theorem X10_leafOf (L : Lay h) {D : List (Int64 × Int64)} (R : RfL h D) (hD : D.length < 128) {p : Nat} (hp : p < 64) {S : Int64} (hS : gL h 139 p = S) : Tr (f_X10_leafOf 123 (nI p) h) (LfQ h D (actL p S, actH p S)) := by
  refine Tr.up (N := 64) (J := fun q x => AK p S q x.1 x.2.1 ∧ x.2.2.1 = nI q ∧ x.2.2.2 = h) ?_ ?_ (p := 0) ⟨⟨fun a ha => ?_, fun a ha => ?_⟩, rfl, rfl⟩ (Nat.zero_le _) (by omega)
  · intro q x kk hq hJ hk'
    obtain ⟨lo, hi, x3, x4⟩ := x
    obtain ⟨J, e3, e4⟩ := hJ
    dsimp only at J e3 e4
    subst e3 e4
    dsimp only
    refine Tr.neg (nI_ge (b := 64) hq (by decide)) (Tr.ck (Lo_123 L) (Tr.gp (Lp_123_24 L) (Tr.ca (La_139 L (by omega)) ?_)))
    rw [nI_clamp (by omega), hS]
    by_cases c : bq S q = true
    · refine Tr.pos ((sar_1 hq).mpr c) (Tr.be (X10_actionOf hp hq x4) ?_)
      have hlt := aN_lt p q
      by_cases c6 : aN p q < 64
      · exact Tr.neg (nI_ge (b := 64) c6 (by decide)) (X10_lf55 hq J c (by rw [if_pos c6]; rfl) (fun lo2 hi2 J2 => hk' _ ⟨J2, rfl, rfl⟩))
      · exact Tr.pos (nI_le (a := 64) (b := aN p q) (by omega) (by omega)) (X10_lf55 hq J c (by rw [if_neg c6]) (fun lo2 hi2 J2 => hk' _ ⟨J2, rfl, rfl⟩))
    · exact Tr.neg (fun z => c ((sar_1 hq).mp z)) (Tr.nmx (hk' _ ⟨J.skip c, nI_1 q, rfl⟩))
  · intro x kk hJ
    obtain ⟨lo, hi, x3, x4⟩ := x
    obtain ⟨J, e3, e4⟩ := hJ
    dsimp only at J e3 e4
    subst e3 e4
    obtain ⟨f1, f2⟩ := J.fin
    rw [← f1, ← f2]
    exact Tr.pos (nI_le (b := 64) (Nat.le_refl _) (by decide)) (X10_lf89 L R hD)
  · rw [bq_0]
    exact ⟨fun z => (by cases z), fun ⟨q, q1, _⟩ => absurd q1 (Nat.not_lt_zero _)⟩
  · rw [bq_0]
    exact ⟨fun z => (by cases z), fun ⟨q, q1, _⟩ => absurd q1 (Nat.not_lt_zero _)⟩
end REF

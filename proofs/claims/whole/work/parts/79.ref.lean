/-! THE REFERENCE: tests of diagrams -/
/-- the tests held -/
def RfT (h : Hp) (T : List TE) : Prop := gI h 123 34 = nI T.length ∧ ∀ (k : Nat) (e : TE), T[k]? = some e → gI h 145 k = nI e.1 ∧ ∀ v, v < 4 → gI h 146 (4 * k + v) = nI (e.2.getD v 0)
def TB (T : List TE) : Prop := ∀ (k : Nat) (e : TE), T[k]? = some e → e.1 < 3 ∧ e.2.length = 4 ∧ ∀ v, v < 4 → e.2.getD v 0 < 2 ^ 31
def tW : Nat → Prop := fun a => a = 123 ∨ a = 145 ∨ a = 146
theorem tsk_v (f : Nat) (b : Nat → Nat) (g : Nat) : ∀ v, v < 4 → (tsk f b g).2.getD v 0 = b (4 * g + v) := fun v hv => by
  rcases (by omega : v = 0 ∨ v = 1 ∨ v = 2 ∨ v = 3) with rfl | rfl | rfl | rfl <;> rfl
/-- the first n children are the same -/
def chE (e : TE) (b : Nat → Nat) (g : Nat) : Nat → Bool
  | 0 => true
  | n + 1 => chE e b g n && decide (e.2.getD n 0 = b (4 * g + n))
theorem chE_4 {e : TE} {f g : Nat} {b : Nat → Nat} (hl : e.2.length = 4) : ((decide (e.1 = f) && chE e b g 4) = true) ↔ e = tsk f b g := by
  obtain ⟨e1, e2⟩ := e
  have hl : e2.length = 4 := hl
  match e2, hl with
  | [x0, x1, x2, x3], _ =>
    unfold chE chE chE chE chE tsk
    simp only [Bool.and_eq_true, decide_eq_true_eq, Bool.true_and]
    constructor
    · rintro ⟨h1, ⟨⟨h2, h3⟩, h4⟩, h5⟩
      have h2 : x0 = b (4 * g + 0) := h2
      have h3 : x1 = b (4 * g + 1) := h3
      have h4 : x2 = b (4 * g + 2) := h4
      have h5 : x3 = b (4 * g + 3) := h5
      subst h1 h2 h3 h4 h5
      rfl
    · intro z
      have z1 := congrArg Prod.fst z
      have z2 := congrArg Prod.snd z
      injection z2 with a0 z2
      injection z2 with a1 z2
      injection z2 with a2 z2
      injection z2 with a3 z2
      exact ⟨z1, ⟨⟨a0, a1⟩, a2⟩, a3⟩
section REF
variable {h : Hp} {T : List TE} {f g : Nat} {b : Nat → Nat}
/-- the four blocks behind 4 g -/
def Bl4 (h : Hp) (b : Nat → Nat) (g : Nat) : Prop := ∀ v, v < 4 → gI h 148 (4 * g + v) = nI (b (4 * g + v)) ∧ b (4 * g + v) < 2 ^ 31
theorem X10_isTest (L : Lay h) (R : RfT h T) (K : TB T) (hT : T.length ≤ 64) {k : Nat} {e : TE} (hk : T[k]? = some e) (hf : f < 3) (hg : 4 * g + 3 < 64) (B : Bl4 h b g) : f_X10_isTest 123 (nI k) (nI f) (nI (4 * g)) h = some (bi (decide (e = tsk f b g)), h) := by
  have hlt := (List.getElem?_eq_some_iff.mp hk).1
  obtain ⟨k1, k2, k3⟩ := K k e hk
  obtain ⟨r1, r2⟩ := R.2 k e hk
  have ee : decide (e = tsk f b g) = (decide (e.1 = f) && chE e b g 4) := by
    have := chE_4 (e := e) (f := f) (g := g) (b := b) k2
    cases c : (decide (e.1 = f) && chE e b g 4) with
    | true => exact decide_eq_true (this.mp c)
    | false => exact decide_eq_false (fun z => by rw [this.mpr z] at c; cases c)
  rw [ee]
  apply Tr.of_eq
  have lp : ∀ x y, x = bi y → Tr (loopN (fun kc s => f_X10_isTest_20 kc 123 (nI k) (nI (4 * g)) s.1 s.2 h) 5000 (x, (0 : Int32))) (fun r h1 => r = bi (y && chE e b g 4) ∧ h1 = h) := by
    intro x y ex
    subst ex
    refine Tr.up (N := 4) (J := fun v s => s = (bi (y && chE e b g v), nI v)) ?_ ?_ (p := 0) (by show (bi y, (0 : Int32)) = (bi (y && true), nI 0); rw [Bool.and_true]; rfl) (Nat.zero_le _) (by omega)
    · intro v s kk hv hJ hk'
      subst hJ
      dsimp only
      have es : chE e b g (v + 1) = (chE e b g v && decide (e.2.getD v 0 = b (4 * g + v))) := rfl
      refine Tr.neg (nI_ge (b := 4) hv (by decide)) ?_
      cases c : (y && chE e b g v) with
      | false =>
        refine Tr.pos rfl (Tr.nmx (hk' _ ?_))
        rw [es, ← Bool.and_assoc, c, nI_1]; rfl
      | true =>
        have e1 : (4 : Int32) * nI k + nI v = nI (4 * k + v) := by rw [show (4 : Int32) = nI 4 from rfl, pk_mul, nI_add]
        have e2 : nI (4 * g) + nI v = nI (4 * g + v) := nI_add _ _
        refine Tr.neg (by decide) (Tr.ck (Lo_123 L) (Tr.gp (Lp_123_33 L) ?_))
        rw [e1, e2]
        refine Tr.ca (La_146 L (by omega)) (Tr.gp (Lp_123_36 L) (Tr.ca (La_148 L (by omega)) ?_))
        rw [nI_clamp (by omega), nI_clamp (by omega), r2 v hv, (B v hv).1]
        by_cases c2 : e.2.getD v 0 = b (4 * g + v)
        · refine Tr.pos (by rw [c2]) (Tr.nmx (hk' _ ?_))
          rw [es, ← Bool.and_assoc, c, decide_eq_true c2, nI_1]; rfl
        · refine Tr.neg (nI_ne (k3 v hv) (B v hv).2 c2) (Tr.nmx (hk' _ ?_))
          rw [es, ← Bool.and_assoc, c, decide_eq_false c2, nI_1]; rfl
    · intro s kk hJ
      subst hJ
      dsimp only
      refine Tr.pos (nI_le (b := 4) (Nat.le_refl _) (by decide)) (Tr.bz ?_ (Tr.ret ⟨rfl, rfl⟩))
      exact bi_01 _
  refine Tr.ck (Lo_123 L) (Tr.gp (Lp_123_32 L) (Tr.ca (La_145 L (by omega)) ?_))
  rw [nI_clamp (by omega), r1]
  by_cases c : e.1 = f
  · rw [decide_eq_true c]
    exact Tr.pos (by rw [c]) (lp _ true rfl)
  · rw [decide_eq_false c]
    exact Tr.neg (nI_ne (by omega) (by omega) c) (lp _ false rfl)
end REF

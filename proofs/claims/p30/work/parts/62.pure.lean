/- 62.ref.lean.txt -/
/-- a stack, the newest first, held from index 0 upward -/
def Stk {α : Type} (v : α → Int32) (f : Nat → Int32) : List α → Prop
  | [] => True
  | x :: t => f t.length = v x ∧ Stk v f t
theorem Stk.up {α : Type} {v : α → Int32} {f : Nat → Int32} {y : Int32} : ∀ {t : List α} {k : Nat}, Stk v f t → t.length ≤ k → Stk v (va_up f k y) t := by
  intro t
  induction t with
  | nil => intro k _ _; trivial
  | cons x t ih =>
    intro k hs hk
    rw [List.length_cons] at hk
    exact ⟨by rw [upd_ne (by omega)]; exact hs.1, ih hs.2 (by omega)⟩
theorem Stk.push {α : Type} {v : α → Int32} {f : Nat → Int32} {t : List α} (hs : Stk v f t) (x : α) : Stk v (va_up f t.length (v x)) (x :: t) := ⟨by rw [upd_eq], hs.up (Nat.le_refl _)⟩
theorem Stk.tl {α : Type} {v : α → Int32} {f : Nat → Int32} {t : List α} {x : α} (hs : Stk v f (x :: t)) : Stk v f t := hs.2
theorem nI_ne {a b : Nat} (ha : a < 2 ^ 31) (hb : b < 2 ^ 31) (h : a ≠ b) : nI a ≠ nI b := fun z => h (by
  have e := congrArg Int32.toNatClampNeg z
  rwa [nI_clamp ha, nI_clamp hb] at e)
section REF
variable {h : Hp} {G : St}
end REF

/- 63.ref.lean.txt -/
section REF
variable {h : Hp} {G : St}
theorem st_two {α : Type} {st : List α} (h : 2 ≤ st.length) : ∃ a b t, st = a :: b :: t := by
  match st, h with
  | a :: b :: t, _ => exact ⟨a, b, t, rfl⟩
theorem st_one {α : Type} {st : List α} (h : 1 ≤ st.length) : ∃ a t, st = a :: t := by
  match st, h with
  | a :: t, _ => exact ⟨a, t, rfl⟩
theorem st_three {α : Type} {st : List α} (h : 3 ≤ st.length) : ∃ a b c t, st = a :: b :: c :: t := by
  match st, h with
  | a :: b :: c :: t, _ => exact ⟨a, b, c, t, rfl⟩
end REF

/- 73.ref.lean.txt -/
/-! THE REFERENCE: a row's operands -/
theorem Stk.drop {α : Type} {v : α → Int32} {f : Nat → Int32} : ∀ (a : Nat) {t : List α}, Stk v f t → Stk v f (t.drop a) := by
  intro a
  induction a with
  | zero => intro t h; exact h
  | succ a ih =>
    intro t h
    cases t with
    | nil => exact h
    | cons x t => exact ih h.2
theorem Stk.get {α : Type} {v : α → Int32} {f : Nat → Int32} : ∀ {t : List α} (i : Nat) (hi : i < t.length), Stk v f t → f (t.length - 1 - i) = v t[i] := by
  intro t
  induction t with
  | nil => intro i hi; exact absurd hi (Nat.not_lt_zero _)
  | cons x t ih =>
    intro i hi h
    cases i with
    | zero => exact h.1
    | succ i =>
      rw [List.length_cons] at hi ⊢
      have := ih i (by omega) h.2
      rw [show t.length + 1 - 1 - (i + 1) = t.length - 1 - i by omega]
      exact this
section REF
variable {h : Hp} {G : St}
end REF

/- 76.ref.lean.txt -/
theorem no_m1 {k : Nat} (hk : k < 2 ^ 31) : ¬ nI k = (-1 : Int32) := fun z => nI_pos (n := k) (by omega) (by rw [z]; decide)
section REF
variable {h : Hp} {G : St}
end REF

/- 77.ref.lean.txt -/
/-! THE REFERENCE: the call printed -/
section REF
variable {h : Hp} {G : St}
end REF
theorem CI.fr {h h1 : Hp} {G : St} {A : Nat → Prop} (C : CI h G) (F : Fr A h h1) (hA : ∀ a, a ≤ 122 → a ≠ 3 → ¬ A a) : CI h1 G := by
  obtain ⟨c1, c2, c3, c4, c5, c6, c7⟩ := C
  exact ⟨F.lay c1, by rw [F.I (hA 1 (by decide) (by decide))]; exact c2, c3, by rw [F.I (hA 2 (by decide) (by decide))]; exact c4, by rw [F.I (hA 22 (by decide) (by decide))]; exact c5, fun s hs => (c6 s hs).fr F (fun a x y => hA a (by unfold slR at x; omega) (by unfold slR at x; omega)), c7.fr F (fun a x => hA a (by unfold hiR at x; omega) (by unfold hiR at x; omega))⟩
/- 79.ref.lean.txt -/
theorem tsk_v (f : Nat) (b : Nat → Nat) (g : Nat) : ∀ v, v < 4 → (tsk f b g).2.getD v 0 = b (4 * g + v) := fun v hv => by
  rcases (by omega : v = 0 ∨ v = 1 ∨ v = 2 ∨ v = 3) with rfl | rfl | rfl | rfl <;> rfl
section REF
variable {h : Hp} {T : List TE} {f g : Nat} {b : Nat → Nat}
end REF

/- 83.ref.lean.txt -/
/-! THE REFERENCE: drawing a slot -/
/-- the nodes of a drawing -/
noncomputable def dIds (o : Nat) (R : Nat → Int64) (D : List (Int64 × Int64)) (T : List TE) : List Nat := (((List.range 64).map (dB3 R D) ++ (List.range 16).map (dB2 o R D T)) ++ (List.range 4).map (dB1 o R D T)) ++ (List.range 1).map (fun k => nid o 0 (dB1 o R D T) (dT0 o R D T) k)
section REF
variable {h : Hp} {G : St}
end REF

/- 88.ref.lean.txt -/
theorem Stk.congr {α : Type} {v : α → Int32} {f g : Nat → Int32} : ∀ {t : List α}, Stk v f t → (∀ i, i < t.length → g i = f i) → Stk v g t := by
  intro t
  induction t with
  | nil => intro _ _; trivial
  | cons x t ih =>
    intro h e
    exact ⟨by rw [e t.length (by rw [List.length_cons]; omega)]; exact h.1, ih h.2 (fun i hi => e i (by rw [List.length_cons]; omega))⟩
section REF
variable {h : Hp} {G : St} {T : List TE}
end REF


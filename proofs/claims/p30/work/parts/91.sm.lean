/-! WHAT NODES STAND FOR -/
def sm (o : Nat) (D : List (Int64 × Int64)) (T : List TE) (x : Nat) : Nat → Nat → Int64 × Int64
  | 0, i => D.getD i (0, 0)
  | n + 1, i => if i < o then D.getD i (0, 0) else sm o D T x n (chl T (i - o) (vlN x (T.getD (i - o) (0, [])).1))
section SM
variable {o : Nat} {D : List (Int64 × Int64)} {T : List TE} {x : Nat}
theorem sm_lf {n i : Nat} (h : i < o) : sm o D T x n i = D.getD i (0, 0) := by
  cases n with
  | zero => rfl
  | succ n => exact if_pos h
theorem sm_ts {n i : Nat} (h : ¬ i < o) : sm o D T x (n + 1) i = sm o D T x n (chl T (i - o) (vlN x (T.getD (i - o) (0, [])).1)) := if_neg h
theorem sm_s : ∀ {n i : Nat}, HF o T n i → sm o D T x (n + 1) i = sm o D T x n i := by
  intro n
  induction n with
  | zero => intro i h; rw [sm_lf h, sm_lf h]
  | succ n ih =>
    intro i h
    by_cases c : i < o
    · rw [sm_lf c, sm_lf c]
    · obtain ⟨m, em, _, _, _, hc⟩ := h.c1 c
      have : m = n := by omega
      subst this
      rw [sm_ts c, sm_ts c, ih (hc _ (vlN_lt _ _))]
theorem sm_up {n i : Nat} (h : HF o T n i) : ∀ {m : Nat}, n ≤ m → sm o D T x m i = sm o D T x n i := by
  intro m
  induction m with
  | zero => intro hm; have : n = 0 := by omega
            subst this; rfl
  | succ m ih =>
    intro hm
    by_cases c : n = m + 1
    · subst c; rfl
    · rw [sm_s (h.up (by omega)), ih (by omega)]
theorem sm_in {y : Nat} : ∀ {n : Nat}, n ≤ 3 → ∀ {i : Nat}, HF o T n i → (∀ f, 3 - n ≤ f → f < 3 → vlN x f = vlN y f) → sm o D T x n i = sm o D T y n i := by
  intro n
  induction n with
  | zero => intro _ i h _; rfl
  | succ n ih =>
    intro hn i h hf
    rcases h with h | ⟨h1, h2, h3, h4, h5⟩
    · rw [sm_s h, sm_s h]
      exact ih (by omega) h (fun f a b => hf f (by omega) b)
    · rw [sm_ts (by omega), sm_ts (by omega), h3, hf (2 - n) (by omega) (by omega)]
      exact ih (by omega) (h5 _ (vlN_lt _ _)) (fun f a b => hf f (by omega) b)
end SM
theorem wvN_ne {p f v g : Nat} (hf : f < 3) (hg : g < 3) (hp : p < 64) (hv : v < 4) (h : g ≠ f) : vlN (wvN p f v) g = vlN p g := by
  rcases (by omega : f = 0 ∨ f = 1 ∨ f = 2) with rfl | rfl | rfl
  · rcases (by omega : g = 1 ∨ g = 2) with rfl | rfl
    · show (p % 16 + 16 * v) / 4 % 4 = p / 4 % 4
      omega
    · show (p % 16 + 16 * v) % 4 = p % 4
      omega
  · rcases (by omega : g = 0 ∨ g = 2) with rfl | rfl
    · show (p / 16 * 16 + p % 4 + 4 * v) / 16 % 4 = p / 16 % 4
      omega
    · show (p / 16 * 16 + p % 4 + 4 * v) % 4 = p % 4
      omega
  · exact (wvN_vl (f := 2) (by decide) hp hv).2 g (by omega)
/-- a table in which each test is once, none has four equal children, and the leaves are below d -/
def GTT (d o : Nat) (T : List TE) : Prop := (∀ (k k2 : Nat) (e : TE), T[k]? = some e → T[k2]? = some e → k = k2) ∧ (∀ (k : Nat) (e : TE), T[k]? = some e → ¬ (e.2.getD 0 0 = e.2.getD 1 0 ∧ e.2.getD 0 0 = e.2.getD 2 0 ∧ e.2.getD 0 0 = e.2.getD 3 0)) ∧ (∀ (k : Nat) (e : TE), T[k]? = some e → ∀ v, v < 4 → e.2.getD v 0 < o → e.2.getD v 0 < d)
def ND {α : Type} (D : List α) : Prop := ∀ (i j : Nat) (x : α), D[i]? = some x → D[j]? = some x → i = j
theorem ND.ins {α : Type} [DecidableEq α] {L : List α} (h : ND L) (y : α) : ND (insA L y) := by
  unfold insA
  by_cases c : y ∈ L
  · rw [if_pos c]; exact h
  · rw [if_neg c]
    have key : ∀ (i : Nat) (x : α), (L ++ [y])[i]? = some x → (i < L.length ∧ L[i]? = some x) ∨ (i = L.length ∧ x = y) := by
      intro i x hx
      have hi := (List.getElem?_eq_some_iff.mp hx).1
      rw [List.length_append, List.length_singleton] at hi
      by_cases e : i = L.length
      · subst e
        rw [List.getElem?_append_right (Nat.le_refl _), Nat.sub_self] at hx
        cases hx
        exact Or.inr ⟨rfl, rfl⟩
      · rw [List.getElem?_append_left (by omega)] at hx
        exact Or.inl ⟨by omega, hx⟩
    intro i j x h1 h2
    rcases key i x h1 with ⟨a, b⟩ | ⟨a, b⟩
    · rcases key j x h2 with ⟨a2, b2⟩ | ⟨a2, b2⟩
      · exact h i j x b b2
      · subst b2; exact absurd (List.mem_of_getElem? b) c
    · rcases key j x h2 with ⟨a2, b2⟩ | ⟨a2, b2⟩
      · subst b; exact absurd (List.mem_of_getElem? b2) c
      · omega
theorem ND.lvs {α : Type} [DecidableEq α] {L : List α} (h : ND L) (f : Nat → α) : ∀ n, ND (lvs f L n) := by
  intro n
  induction n with
  | zero => exact h
  | succ n ih => exact ih.ins _
theorem GTT.mono {d d2 o : Nat} {T : List TE} (h : GTT d o T) (hd : d ≤ d2) : GTT d2 o T := ⟨h.1, h.2.1, fun k e hk v hv ho => by have := h.2.2 k e hk v hv ho; omega⟩
theorem alq_iff {b : Nat → Nat} {k : Nat} : alq b k = true ↔ b (4 * k) = b (4 * k + 1) ∧ b (4 * k) = b (4 * k + 2) ∧ b (4 * k) = b (4 * k + 3) := by
  unfold alq
  simp only [Bool.and_eq_true, beq_iff_eq]
theorem alq_v {b : Nat → Nat} {k v : Nat} (h : alq b k = true) (hv : v < 4) : b (4 * k + v) = b (4 * k) := by
  obtain ⟨h1, h2, h3⟩ := alq_iff.mp h
  rcases (by omega : v = 0 ∨ v = 1 ∨ v = 2 ∨ v = 3) with rfl | rfl | rfl | rfl
  · rfl
  · exact h1.symm
  · exact h2.symm
  · exact h3.symm
theorem GTT.tss {d o f : Nat} {b : Nat → Nat} {T : List TE} (h : GTT d o T) : ∀ {n : Nat}, (∀ j, j < 4 * n → b j < o → b j < d) → GTT d o (tss f b T n) := by
  intro n
  induction n with
  | zero => intro _; exact h
  | succ n ih =>
    intro hb
    have K := ih (fun j hj => hb j (by omega))
    rw [tss_s]
    by_cases c : alq b n = true
    · rw [if_pos c]; exact K
    · rw [if_neg c]
      refine ⟨ND.ins K.1 _, fun k e hk => ?_, fun k e hk => ?_⟩
      · rcases insA_sub (List.mem_of_getElem? hk) with z | z
        · obtain ⟨i, hi⟩ := List.mem_iff_getElem?.mp z
          exact K.2.1 i e hi
        · subst z
          exact fun w => c (alq_iff.mpr w)
      · rcases insA_sub (List.mem_of_getElem? hk) with z | z
        · obtain ⟨i, hi⟩ := List.mem_iff_getElem?.mp z
          exact K.2.2 i e hi
        · subst z
          intro v hv
          rw [tsk_v f b n v hv]
          exact hb _ (by omega)
theorem l4_ext {l m : List Nat} (hl : l.length = 4) (hm : m.length = 4) (h : ∀ v, v < 4 → l.getD v 0 = m.getD v 0) : l = m := by
  match l, hl, m, hm, h with
  | [a, b, c, d], _, [a2, b2, c2, d2], _, h =>
    have h0 : a = a2 := h 0 (by decide)
    have h1 : b = b2 := h 1 (by decide)
    have h2 : c = c2 := h 2 (by decide)
    have h3 : d = d2 := h 3 (by decide)
    rw [h0, h1, h2, h3]


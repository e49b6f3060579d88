/-! THE PARSERS: one pure parser; what is open: (kind, place, place in the reference), the newest first -/
abbrev FrS : Type := List (Nat × Nat × Nat)
abbrev PSy : Type := List Nat × FrS
abbrev PQy : Type := PSy × Nat × Nat × Nat
def topP (l : List Nat) : Bool := (sB l).getD 0 false
def cNot : List Nat → FrS → Nat ⊕ PSy
  | l, [] => Sum.inr (l, [])
  | l, f :: F => if f.1 = 3 then (if topP l then cNot (l ++ [112]) F else Sum.inl (f.2.1 + 1)) else Sum.inr (l, f :: F)
def cPair (k c : Nat) (s : PSy) : PSy := match s.2 with
  | [] => s
  | f :: F => if f.1 = k then (s.1 ++ [c], F) else s
def cCond (s : PSy) : Nat ⊕ PSy := match s.2 with
  | [] => Sum.inr s
  | f :: _ => if f.1 = 5 then (if topP s.1 then Sum.inr s else Sum.inl (f.2.1 + 1)) else Sum.inr s
def cBr (i c : Nat) (s : PSy) : Nat ⊕ PQy := match s.2 with
  | [] => Sum.inl i
  | f :: F => if c = 41 ∧ f.1 = 4 then Sum.inr ((s.1, F), 3, 0, 0) else if c = 63 ∧ f.1 = 5 then Sum.inr ((s.1, (6, i, f.2.2) :: F), 0, 0, 0) else if c = 124 ∧ f.1 = 6 then Sum.inr ((s.1, (7, i, f.2.2) :: F), 0, 0, 0) else if c = 93 ∧ f.1 = 7 then Sum.inr ((s.1 ++ [128], F), 3, 0, 0) else Sum.inl i
/-- behind the negations -/
def stC (i c : Nat) (s : PSy) : Nat ⊕ PQy := if c = 46 then Sum.inr (((cPair 2 80 s).1, (2, i, i) :: (cPair 2 80 s).2), 0, 0, 0) else if c = 43 then Sum.inr (((cPair 1 64 (cPair 2 80 s)).1, (1, i, i) :: (cPair 1 64 (cPair 2 80 s)).2), 0, 0, 0) else match cCond (cPair 1 64 (cPair 1 64 (cPair 2 80 s))) with
  | Sum.inl e => Sum.inl e
  | Sum.inr s4 => cBr i c s4
def stB (i c : Nat) (s : PSy) : Nat ⊕ PQy := match cNot s.1 s.2 with
  | Sum.inl e => Sum.inl e
  | Sum.inr s1 => stC i c s1
def stA (S : Nat → List Nat) (i c : Nat) (s : PSy) : Nat ⊕ PQy := if c = 33 then Sum.inr ((s.1, (3, i, i) :: s.2), 0, 0, 0) else if c = 40 then Sum.inr ((s.1, (4, i, i) :: s.2), 0, 0, 0) else if c = 91 then Sum.inr ((s.1, (5, i, i) :: s.2), 0, 0, 0) else if c = 48 ∨ c = 49 then Sum.inr ((s.1 ++ [16 * (c - 48)], s.2), 3, 0, 0) else if 120 ≤ c ∧ c ≤ 122 then Sum.inr (s, 1, c - 120, 0) else if 112 ≤ c ∧ c ≤ 115 then Sum.inr ((s.1 ++ S (c - 112), s.2), 3, 0, 0) else Sum.inl i
def stS (i c : Nat) (q : PQy) : Nat ⊕ PQy := if c = 61 then Sum.inr (q.1, 2, q.2.2.1, 2) else if c = 58 then Sum.inr (q.1, 2, q.2.2.1, 3) else Sum.inl i
def stD (i c : Nat) (q : PQy) : Nat ⊕ PQy := if 48 ≤ c ∧ c < 52 then Sum.inr ((q.1.1 ++ [16 * q.2.2.2 + 4 * q.2.2.1 + (c - 48)], q.1.2), 3, 0, 0) else Sum.inl i
def stE (i c : Nat) (s : PSy) : Nat ⊕ PQy := if c = 42 then Sum.inr ((s.1 ++ [96], s.2), 3, 0, 0) else stB i c s
def pst (S : Nat → List Nat) (i c : Nat) (q : PQy) : Nat ⊕ PQy := if q.2.1 = 0 then stA S i c q.1 else if q.2.1 = 1 then stS i c q else if q.2.1 = 2 then stD i c q else stE i c q.1
def pfC (n : Nat) (s : PSy) : Nat ⊕ List Nat := match cCond (cPair 1 64 (cPair 2 80 s)) with
  | Sum.inl e => Sum.inl e
  | Sum.inr s2 => if s2.2.length = 0 then Sum.inr s2.1 else Sum.inl n
def pfn (n : Nat) (q : PQy) : Nat ⊕ List Nat := if q.2.1 = 3 then (match cNot q.1.1 q.1.2 with
  | Sum.inl e => Sum.inl e
  | Sum.inr s1 => pfC n s1) else Sum.inl n
def prn (S : Nat → List Nat) (tx : Nat → Nat) (n : Nat) : Nat → PQy → Nat ⊕ List Nat
  | 0, q => pfn n q
  | k + 1, q => match pst S (n - (k + 1)) (tx (n - (k + 1))) q with
    | Sum.inl e => Sum.inl e
    | Sum.inr q2 => prn S tx n k q2
def q0 : PQy := (([], []), 0, 0, 0)
def aParse (G : St) (x : Int32) : Int32 × St := match sl x with
  | none => (-2, failS G 0)
  | some t => match prn G.2.2.1 G.2.1 G.1 G.1 q0 with
    | Sum.inl e => ((-10 : Int32) - nI e, G)
    | Sum.inr l => aStore G t l
/-! what stands while a text is read -/
def cnt : FrS → Nat
  | [] => 0
  | f :: F => (if f.1 ≤ 2 then 1 else if f.1 ≤ 5 then 0 else if f.1 = 6 then 1 else 2) + cnt F
def stt : FrS → Nat
  | [] => 0
  | f :: _ => f.2.1 + 1
def hk : FrS → Nat
  | [] => 0
  | f :: _ => f.1
def FOK : FrS → Prop
  | [] => True
  | f :: F => FOK F ∧ 1 ≤ f.1 ∧ f.1 ≤ 7 ∧ (f.1 = 2 → hk F ≠ 2 ∧ hk F ≠ 3) ∧ (f.1 = 1 → hk F ≠ 1 ∧ hk F ≠ 2 ∧ hk F ≠ 3) ∧ (3 ≤ f.1 → f.2.2 = stt F) ∧ f.2.1 < 2 ^ 30
/-- behind an operand: N nodes and open things at most, n at most open, n at most waiting -/
def CV (N n : Nat) (s : PSy) : Prop := Pre s.1 (cnt s.2 + 1) ∧ FOK s.2 ∧ s.2.length ≤ n ∧ cnt s.2 + 1 ≤ n ∧ s.1.length + s.2.length ≤ N
theorem ar_112 : ar 112 = 1 := rfl
theorem CV.no {N n : Nat} {l : List Nat} {f : Nat × Nat × Nat} {F : FrS} (h : CV N n (l, f :: F)) (hf : f.1 = 3) : CV N n (l ++ [112], F) := by
  obtain ⟨h1, h2, h3, h4, h5⟩ := h
  have ec : cnt (f :: F) = cnt F := by show (if f.1 ≤ 2 then 1 else if f.1 ≤ 5 then 0 else if f.1 = 6 then 1 else 2) + cnt F = _; rw [hf]; exact Nat.zero_add _
  dsimp only at h1 h2 h3 h4 h5
  rw [ec] at h1 h4
  rw [List.length_cons] at h3 h5
  have hp := h1.snoc (c := 112) rfl (by rw [ar_112]; omega)
  rw [ar_112, Nat.add_sub_cancel] at hp
  exact ⟨hp, h2.1, by show F.length ≤ n; omega, h4, by show (l ++ [112]).length + F.length ≤ N; rw [List.length_append, List.length_singleton]; omega⟩
theorem CV.nots {N n : Nat} : ∀ {F : FrS} {l : List Nat} {s : PSy}, CV N n (l, F) → cNot l F = Sum.inr s → CV N n s ∧ hk s.2 ≠ 3 := by
  intro F
  induction F with
  | nil => intro l s h e; cases e; exact ⟨h, (by decide : (0 : Nat) ≠ 3)⟩
  | cons f F ih =>
    intro l s h e
    unfold cNot at e
    by_cases c : f.1 = 3
    · rw [if_pos c] at e
      by_cases c2 : topP l = true
      · rw [if_pos c2] at e
        exact ih (h.no c) e
      · rw [if_neg c2] at e; cases e
    · rw [if_neg c] at e
      cases e
      exact ⟨h, c⟩
theorem CV.pair {N n k c : Nat} {s : PSy} (h : CV N n s) (hk2 : k = 1 ∨ k = 2) (hc : vcd c = true) (ha : ar c = 2) : CV N n (cPair k c s) := by
  obtain ⟨l, F⟩ := s
  cases F with
  | nil => exact h
  | cons f F =>
    show CV N n (if f.1 = k then (l ++ [c], F) else (l, f :: F))
    by_cases e : f.1 = k
    · rw [if_pos e]
      obtain ⟨h1, h2, h3, h4, h5⟩ := h
      have ec : cnt (f :: F) = 1 + cnt F := by show (if f.1 ≤ 2 then 1 else if f.1 ≤ 5 then 0 else if f.1 = 6 then 1 else 2) + cnt F = _; rw [if_pos (by omega)]
      dsimp only at h1 h2 h3 h4 h5
      rw [ec] at h1 h4
      rw [List.length_cons] at h3 h5
      have hp := h1.snoc (c := c) hc (by rw [ha]; omega)
      rw [ha, show 1 + cnt F + 1 - 2 + 1 = cnt F + 1 by omega] at hp
      exact ⟨hp, h2.1, by show F.length ≤ n; omega, by show cnt F + 1 ≤ n; omega, by show (l ++ [c]).length + F.length ≤ N; rw [List.length_append, List.length_singleton]; omega⟩
    · rw [if_neg e]; exact h
theorem hk_seq {N n : Nat} {s : PSy} (h : CV N n s) (h3 : hk s.2 ≠ 3) : hk (cPair 2 80 s).2 ≠ 2 ∧ hk (cPair 2 80 s).2 ≠ 3 := by
  obtain ⟨l, F⟩ := s
  cases F with
  | nil => exact ⟨(by decide : (0 : Nat) ≠ 2), (by decide : (0 : Nat) ≠ 3)⟩
  | cons f F =>
    show hk (if f.1 = 2 then (l ++ [80], F) else (l, f :: F)).2 ≠ 2 ∧ hk (if f.1 = 2 then (l ++ [80], F) else (l, f :: F)).2 ≠ 3
    by_cases e : f.1 = 2
    · rw [if_pos e]; exact h.2.1.2.2.2.1 e
    · rw [if_neg e]; exact ⟨e, h3⟩
theorem hk_uni {N n : Nat} {s : PSy} (h : CV N n s) (h2 : hk s.2 ≠ 2) (h3 : hk s.2 ≠ 3) : hk (cPair 1 64 s).2 ≠ 1 ∧ hk (cPair 1 64 s).2 ≠ 2 ∧ hk (cPair 1 64 s).2 ≠ 3 := by
  obtain ⟨l, F⟩ := s
  cases F with
  | nil => exact ⟨(by decide : (0 : Nat) ≠ 1), (by decide : (0 : Nat) ≠ 2), (by decide : (0 : Nat) ≠ 3)⟩
  | cons f F =>
    show hk (if f.1 = 1 then (l ++ [64], F) else (l, f :: F)).2 ≠ 1 ∧ hk (if f.1 = 1 then (l ++ [64], F) else (l, f :: F)).2 ≠ 2 ∧ hk (if f.1 = 1 then (l ++ [64], F) else (l, f :: F)).2 ≠ 3
    by_cases e : f.1 = 1
    · rw [if_pos e]; exact h.2.1.2.2.2.2.1 e
    · rw [if_neg e]; exact ⟨e, h2, h3⟩
theorem cPair_no {k c : Nat} {s : PSy} (h : hk s.2 ≠ k) : cPair k c s = s := by
  obtain ⟨l, F⟩ := s
  cases F with
  | nil => rfl
  | cons f F => exact if_neg h
theorem cCond_is {s s2 : PSy} (h : cCond s = Sum.inr s2) : s2 = s := by
  obtain ⟨l, F⟩ := s
  cases F with
  | nil => cases h; rfl
  | cons f F =>
    unfold cCond at h
    dsimp only at h
    by_cases c : f.1 = 5
    · rw [if_pos c] at h
      by_cases c2 : topP l = true
      · rw [if_pos c2] at h; cases h; rfl
      · rw [if_neg c2] at h; cases h
    · rw [if_neg c] at h; cases h; rfl
/-- what stands ahead of byte i -/
def PV (i : Nat) (q : PQy) : Prop := (q.2.1 = 3 ∧ CV (31 * i + 30) i q.1) ∨ (q.2.1 < 3 ∧ Pre q.1.1 (cnt q.1.2) ∧ FOK q.1.2 ∧ q.1.2.length ≤ i ∧ cnt q.1.2 ≤ i ∧ q.1.1.length + q.1.2.length ≤ 31 * i ∧ (q.2.1 = 0 → i = stt q.1.2) ∧ (q.2.1 ≠ 0 → q.2.2.1 < 3) ∧ (q.2.1 = 2 → q.2.2.2 = 2 ∨ q.2.2.2 = 3))
theorem PV_0 : PV 0 q0 := Or.inr ⟨(by decide : 0 < 3), Pre.nil, trivial, Nat.le_refl _, Nat.le_refl _, Nat.le_refl _, fun _ => rfl, fun h => absurd rfl h, fun h => absurd h (by decide : ¬ (0 : Nat) = 2)⟩
/-- a leaf ends -/
theorem PV.leaf {i : Nat} {l m : List Nat} {F : FrS} (h1 : Pre l (cnt F)) (h2 : FOK F) (h3 : F.length ≤ i) (h4 : cnt F ≤ i) (h5 : l.length + F.length ≤ 31 * i) (hm : Pre m 1) (hl : m.length ≤ 60) {a b : Nat} : PV (i + 1) ((l ++ m, F), 3, a, b) :=
  Or.inl ⟨rfl, h1.app hm, h2, by show F.length ≤ i + 1; omega, by show cnt F + 1 ≤ i + 1; omega, by show (l ++ m).length + F.length ≤ 31 * (i + 1) + 30; rw [List.length_append]; omega⟩
/-- something opens -/
theorem PV.opn {i k r : Nat} {l : List Nat} {F : FrS} (h1 : Pre l (cnt ((k, i, r) :: F))) (h2 : FOK ((k, i, r) :: F)) (h3 : F.length ≤ i) (h4 : cnt ((k, i, r) :: F) ≤ i + 1) (h5 : l.length + F.length + 1 ≤ 31 * (i + 1)) : PV (i + 1) ((l, (k, i, r) :: F), 0, 0, 0) :=
  Or.inr ⟨(by decide : 0 < 3), h1, h2, by rw [List.length_cons]; omega, h4, by show l.length + ((k, i, r) :: F).length ≤ 31 * (i + 1); rw [List.length_cons]; omega, fun _ => rfl, fun h => absurd rfl h, fun h => absurd h (by decide : ¬ (0 : Nat) = 2)⟩
theorem pre_1 {c : Nat} (hc : vcd c = true) (ha : ar c = 0) : Pre [c] 1 := by
  have := Pre.nil.snoc hc (by omega)
  rw [ha] at this
  exact this
theorem PV.stA {S : Nat → List Nat} {i c : Nat} {s : PSy} {a b : Nat} {q2 : PQy} (hib : i < 2 ^ 30) (hS : ∀ t, t < 4 → Wf (S t)) (h : PV i (s, 0, a, b)) (e : stA S i c s = Sum.inr q2) : PV (i + 1) q2 := by
  obtain ⟨l, F⟩ := s
  rcases h with ⟨h0, _⟩ | ⟨_, h1, h2, h3, h4, h5, h6, _, _⟩
  · exact absurd h0 (by decide : ¬ (0 : Nat) = 3)
  dsimp only at h1 h2 h3 h4 h5 h6
  have hi := h6 rfl
  have op : ∀ k, k = 3 ∨ k = 4 ∨ k = 5 → PV (i + 1) ((l, (k, i, i) :: F), 0, 0, 0) := fun k hk5 => by
    have ec : cnt ((k, i, i) :: F) = cnt F := by
      show (if k ≤ 2 then 1 else if k ≤ 5 then 0 else if k = 6 then 1 else 2) + cnt F = _
      rw [if_neg (by omega), if_pos (by omega), Nat.zero_add]
    exact PV.opn (by rw [ec]; exact h1) ⟨h2, by show 1 ≤ k; omega, by show k ≤ 7; omega, fun z => absurd (show k = 2 from z) (by omega), fun z => absurd (show k = 1 from z) (by omega), fun _ => hi, hib⟩ h3 (by rw [ec]; omega) (by omega)
  unfold Jvm.Pilot.@@N@@.stA at e
  by_cases c1 : c = 33
  · rw [if_pos c1] at e; cases e; exact op 3 (by omega)
  rw [if_neg c1] at e
  by_cases c2 : c = 40
  · rw [if_pos c2] at e; cases e; exact op 4 (by omega)
  rw [if_neg c2] at e
  by_cases c3 : c = 91
  · rw [if_pos c3] at e; cases e; exact op 5 (by omega)
  rw [if_neg c3] at e
  by_cases c4 : c = 48 ∨ c = 49
  · rw [if_pos c4] at e; cases e
    have hv : Pre [16 * (c - 48)] 1 := by
      rcases c4 with rfl | rfl
      · exact pre_1 rfl rfl
      · exact pre_1 rfl rfl
    exact PV.leaf h1 h2 h3 h4 h5 hv (show 1 ≤ 60 by decide)
  rw [if_neg c4] at e
  by_cases c5 : 120 ≤ c ∧ c ≤ 122
  · rw [if_pos c5] at e; cases e
    exact Or.inr ⟨(by decide : 1 < 3), h1, h2, by show F.length ≤ i + 1; omega, by show cnt F ≤ i + 1; omega, by show l.length + F.length ≤ 31 * (i + 1); omega, fun z => absurd z (by decide : ¬ (1 : Nat) = 0), fun _ => by show c - 120 < 3; omega, fun z => absurd z (by decide : ¬ (1 : Nat) = 2)⟩
  rw [if_neg c5] at e
  by_cases c6 : 112 ≤ c ∧ c ≤ 115
  · rw [if_pos c6] at e; cases e
    have W := hS (c - 112) (by omega)
    exact PV.leaf h1 h2 h3 h4 h5 W.pre W.2.2.1
  · rw [if_neg c6] at e; cases e
theorem PV.stS {i c : Nat} {s : PSy} {a b : Nat} {q2 : PQy} (h : PV i (s, 1, a, b)) (e : stS i c (s, 1, a, b) = Sum.inr q2) : PV (i + 1) q2 := by
  obtain ⟨l, F⟩ := s
  rcases h with ⟨h0, _⟩ | ⟨_, h1, h2, h3, h4, h5, _, h7, _⟩
  · exact absurd h0 (by decide : ¬ (1 : Nat) = 3)
  dsimp only at h1 h2 h3 h4 h5 h7
  have go : ∀ g, g = 2 ∨ g = 3 → PV (i + 1) ((l, F), 2, a, g) := fun g hg => Or.inr ⟨(by decide : 2 < 3), h1, h2, by show F.length ≤ i + 1; omega, by show cnt F ≤ i + 1; omega, by show l.length + F.length ≤ 31 * (i + 1); omega, fun z => absurd z (by decide : ¬ (2 : Nat) = 0), fun _ => h7 (by decide), fun _ => hg⟩
  unfold Jvm.Pilot.@@N@@.stS at e
  by_cases c1 : c = 61
  · rw [if_pos c1] at e; cases e; exact go 2 (by omega)
  rw [if_neg c1] at e
  by_cases c2 : c = 58
  · rw [if_pos c2] at e; cases e; exact go 3 (by omega)
  rw [if_neg c2] at e; cases e
theorem PV.stD {i c : Nat} {s : PSy} {a b : Nat} {q2 : PQy} (h : PV i (s, 2, a, b)) (e : stD i c (s, 2, a, b) = Sum.inr q2) : PV (i + 1) q2 := by
  obtain ⟨l, F⟩ := s
  rcases h with ⟨h0, _⟩ | ⟨_, h1, h2, h3, h4, h5, _, h7, h8⟩
  · exact absurd h0 (by decide : ¬ (2 : Nat) = 3)
  dsimp only at h1 h2 h3 h4 h5 h7 h8
  have a3 := h7 (by decide)
  have b2 := h8 rfl
  unfold Jvm.Pilot.@@N@@.stD at e
  by_cases c1 : 48 ≤ c ∧ c < 52
  · rw [if_pos c1] at e; cases e
    have hv : Pre [16 * b + 4 * a + (c - 48)] 1 := by
      have hd : c - 48 < 4 := by omega
      generalize c - 48 = d at hd
      have e1 : vcd (16 * b + 4 * a + d) = true := by
        rcases b2 with rfl | rfl <;> (rcases (by omega : a = 0 ∨ a = 1 ∨ a = 2) with rfl | rfl | rfl) <;> (rcases (by omega : d = 0 ∨ d = 1 ∨ d = 2 ∨ d = 3) with rfl | rfl | rfl | rfl) <;> rfl
      exact pre_1 e1 (by unfold ar; rw [if_pos (by omega)])
    exact PV.leaf h1 h2 h3 h4 h5 hv (show 1 ≤ 60 by decide)
  · rw [if_neg c1] at e; cases e
/-- closing and opening behind an operand -/
theorem PV.stC {i c : Nat} {s : PSy} {q2 : PQy} (hib : i < 2 ^ 30) (h : CV (31 * i + 30) i s) (h3 : hk s.2 ≠ 3) (e : stC i c s = Sum.inr q2) : PV (i + 1) q2 := by
  have s1 := h.pair (k := 2) (c := 80) (Or.inr rfl) rfl rfl
  have k1 := hk_seq h h3
  unfold Jvm.Pilot.@@N@@.stC at e
  generalize cPair 2 80 s = t at s1 k1 e
  have s2 := s1.pair (k := 1) (c := 64) (Or.inl rfl) rfl rfl
  have k2 := hk_uni s1 k1.1 k1.2
  by_cases c1 : c = 46
  · rw [if_pos c1] at e; cases e
    obtain ⟨l, F⟩ := t
    obtain ⟨a1, a2, a3, a4, a5⟩ := s1
    have ec : cnt ((2, i, i) :: F) = cnt F + 1 := Nat.add_comm 1 _
    exact PV.opn (by rw [ec]; exact a1) ⟨a2, (by decide : 1 ≤ 2), (by decide : 2 ≤ 7), fun _ => k1, fun z => absurd z (by decide : ¬ (2 : Nat) = 1), fun z => absurd z (by decide : ¬ (3 : Nat) ≤ 2), hib⟩ a3 (by rw [ec]; dsimp only at a4; omega) (by dsimp only at a5 ⊢; omega)
  rw [if_neg c1] at e
  rw [cPair_no (k := 1) (c := 64) k2.1] at e
  generalize cPair 1 64 t = u at s2 k2 e
  by_cases c2 : c = 43
  · rw [if_pos c2] at e; cases e
    obtain ⟨l, F⟩ := u
    obtain ⟨a1, a2, a3, a4, a5⟩ := s2
    have ec : cnt ((1, i, i) :: F) = cnt F + 1 := Nat.add_comm 1 _
    exact PV.opn (by rw [ec]; exact a1) ⟨a2, (by decide : 1 ≤ 1), (by decide : 1 ≤ 7), fun z => absurd z (by decide : ¬ (1 : Nat) = 2), fun _ => k2, fun z => absurd z (by decide : ¬ (3 : Nat) ≤ 1), hib⟩ a3 (by rw [ec]; dsimp only at a4; omega) (by dsimp only at a5 ⊢; omega)
  rw [if_neg c2] at e
  cases hcc : cCond u with
  | inl x => rw [hcc] at e; cases e
  | inr u2 =>
    rw [hcc] at e
    have eu := cCond_is hcc
    subst eu
    have e : cBr i c u2 = Sum.inr q2 := e
    obtain ⟨l, F⟩ := u2
    obtain ⟨a1, a2, a3, a4, a5⟩ := s2
    dsimp only at a1 a2 a3 a4 a5
    cases F with
    | nil => cases e
    | cons f F =>
      rw [List.length_cons] at a3 a5
      have e : (if c = 41 ∧ f.1 = 4 then Sum.inr ((l, F), 3, 0, 0) else if c = 63 ∧ f.1 = 5 then Sum.inr ((l, (6, i, f.2.2) :: F), 0, 0, 0) else if c = 124 ∧ f.1 = 6 then Sum.inr ((l, (7, i, f.2.2) :: F), 0, 0, 0) else if c = 93 ∧ f.1 = 7 then Sum.inr ((l ++ [128], F), 3, 0, 0) else Sum.inl i : Nat ⊕ PQy) = Sum.inr q2 := e
      have cf : cnt (f :: F) = (if f.1 ≤ 2 then 1 else if f.1 ≤ 5 then 0 else if f.1 = 6 then 1 else 2) + cnt F := rfl
      by_cases d1 : c = 41 ∧ f.1 = 4
      · rw [if_pos d1] at e; cases e
        rw [d1.2, show (if 4 ≤ 2 then 1 else if 4 ≤ 5 then 0 else if 4 = 6 then 1 else 2) + cnt F = cnt F from Nat.zero_add _] at cf
        rw [cf] at a1 a4
        exact Or.inl ⟨rfl, a1, a2.1, by show F.length ≤ i + 1; omega, by show cnt F + 1 ≤ i + 1; omega, by show l.length + F.length ≤ _; omega⟩
      rw [if_neg d1] at e
      by_cases d2 : c = 63 ∧ f.1 = 5
      · rw [if_pos d2] at e; cases e
        rw [d2.2, show (if 5 ≤ 2 then 1 else if 5 ≤ 5 then 0 else if 5 = 6 then 1 else 2) + cnt F = cnt F from Nat.zero_add _] at cf
        rw [cf] at a1 a4
        have ec : cnt ((6, i, f.2.2) :: F) = cnt F + 1 := Nat.add_comm 1 _
        exact PV.opn (by rw [ec]; exact a1) ⟨a2.1, (by decide : 1 ≤ 6), (by decide : 6 ≤ 7), fun z => absurd z (by decide : ¬ (6 : Nat) = 2), fun z => absurd z (by decide : ¬ (6 : Nat) = 1), fun _ => a2.2.2.2.2.2.1 (by omega), hib⟩ (by omega) (by rw [ec]; omega) (by omega)
      rw [if_neg d2] at e
      by_cases d3 : c = 124 ∧ f.1 = 6
      · rw [if_pos d3] at e; cases e
        rw [d3.2, show (if 6 ≤ 2 then 1 else if 6 ≤ 5 then 0 else if 6 = 6 then 1 else 2) + cnt F = 1 + cnt F from rfl] at cf
        rw [cf] at a1 a4
        have ec : cnt ((7, i, f.2.2) :: F) = 1 + cnt F + 1 := by show 2 + cnt F = _; omega
        exact PV.opn (by rw [ec]; exact a1) ⟨a2.1, (by decide : 1 ≤ 7), (by decide : 7 ≤ 7), fun z => absurd z (by decide : ¬ (7 : Nat) = 2), fun z => absurd z (by decide : ¬ (7 : Nat) = 1), fun _ => a2.2.2.2.2.2.1 (by omega), hib⟩ (by omega) (by rw [ec]; omega) (by omega)
      rw [if_neg d3] at e
      by_cases d4 : c = 93 ∧ f.1 = 7
      · rw [if_pos d4] at e; cases e
        rw [d4.2, show (if 7 ≤ 2 then 1 else if 7 ≤ 5 then 0 else if 7 = 6 then 1 else 2) + cnt F = 2 + cnt F from rfl] at cf
        rw [cf] at a1 a4
        have hp := a1.snoc (c := 128) rfl (by show 3 ≤ _; omega)
        rw [show ar 128 = 3 from rfl, show 2 + cnt F + 1 - 3 + 1 = cnt F + 1 by omega] at hp
        exact Or.inl ⟨rfl, hp, a2.1, by show F.length ≤ i + 1; omega, by show cnt F + 1 ≤ i + 1; omega, by show (l ++ [128]).length + F.length ≤ _; rw [List.length_append, List.length_singleton]; omega⟩
      · rw [if_neg d4] at e; cases e
theorem PV.stE {i c : Nat} {s : PSy} {q2 : PQy} (hib : i < 2 ^ 30) (h : CV (31 * i + 30) i s) (e : stE i c s = Sum.inr q2) : PV (i + 1) q2 := by
  unfold Jvm.Pilot.@@N@@.stE at e
  by_cases c1 : c = 42
  · rw [if_pos c1] at e; cases e
    obtain ⟨h1, h2, h3, h4, h5⟩ := h
    have hp := h1.snoc (c := 96) rfl (by show 1 ≤ _; omega)
    rw [show ar 96 = 1 from rfl, Nat.add_sub_cancel] at hp
    exact Or.inl ⟨rfl, hp, h2, by show s.2.length ≤ i + 1; omega, by show cnt s.2 + 1 ≤ i + 1; omega, by show (s.1 ++ [96]).length + s.2.length ≤ _; rw [List.length_append, List.length_singleton]; omega⟩
  rw [if_neg c1] at e
  unfold stB at e
  cases hn : cNot s.1 s.2 with
  | inl x => rw [hn] at e; cases e
  | inr t =>
    rw [hn] at e
    obtain ⟨v1, v2⟩ := CV.nots (s := t) h hn
    exact PV.stC hib v1 v2 e
theorem PV.step {S : Nat → List Nat} {i c : Nat} {q q2 : PQy} (hib : i < 2 ^ 30) (hS : ∀ t, t < 4 → Wf (S t)) (h : PV i q) (e : pst S i c q = Sum.inr q2) : PV (i + 1) q2 := by
  obtain ⟨s, st, a, b⟩ := q
  unfold pst at e
  dsimp only at e
  by_cases c0 : st = 0
  · subst c0
    rw [if_pos rfl] at e
    exact h.stA hib hS e
  rw [if_neg c0] at e
  by_cases c1 : st = 1
  · subst c1
    rw [if_pos rfl] at e
    exact h.stS e
  rw [if_neg c1] at e
  by_cases c2 : st = 2
  · subst c2
    rw [if_pos rfl] at e
    exact h.stD e
  rw [if_neg c2] at e
  rcases h with ⟨_, h⟩ | ⟨h0, _⟩
  · exact PV.stE hib h e
  · dsimp only at h0; omega
theorem stt_b {F : FrS} (h : FOK F) : stt F < 2 ^ 31 := by
  cases F with
  | nil => decide
  | cons f F =>
    have := h.2.2.2.2.2.2
    show f.2.1 + 1 < 2 ^ 31
    omega

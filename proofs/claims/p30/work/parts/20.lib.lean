/-! WHAT A MIRROR COMES TO: Tr o Q: it ends, and its answer and world have Q -/
def Tr {ρ : Type} (o : Option (ρ × Hp)) (Q : ρ → Hp → Prop) : Prop := ∃ (r : ρ) (h : Hp), o = some (r, h) ∧ Q r h
section TT
variable {ρ ρ' σ α : Type} {Q : ρ → Hp → Prop} {Q1 : ρ' → Hp → Prop} {h : Hp} {e e1 e2 : Option (ρ × Hp)}
theorem Tr.ret {r : ρ} {h : Hp} (q : Q r h) : Tr (some (r, h)) Q := ⟨r, h, rfl, q⟩
theorem Tr.nmx {x : α} {f : α → Option (ρ × Hp)} (k : Tr (f x) Q) : Tr (Jvm.Pilot.@@N@@.nm x f) Q := k
theorem Tr.nm {x : α} {f : α → Option (ρ × Hp)} (k : ∀ y, y = x → Tr (f y) Q) : Tr (Jvm.Pilot.@@N@@.nm x f) Q := k x rfl
theorem Tr.ck {a ci : Nat} (o : isO h a ci) (k : Tr e Q) : Tr (Jvm.Pilot.@@N@@.ck h a ci e) Q := by
  show Tr (if (gS h a).1 = ci ∧ 1 ≤ a ∧ a ≤ gN h then e else none) Q
  rw [if_pos (show (gS h a).1 = ci ∧ 1 ≤ a ∧ a ≤ gN h from o)]; exact k
theorem Tr.ca {a kd : Nat} {i : Int32} (o : isA h a kd i) (k : Tr e Q) : Tr (Jvm.Pilot.@@N@@.ca h a kd i e) Q := by
  show Tr (if ((gS h a).1 = kd ∧ 1 ≤ a ∧ a ≤ gN h) ∧ ¬ (i < 0 ∨ (gS h a).2 ≤ i.toNatClampNeg) then e else none) Q
  rw [if_pos (show ((gS h a).1 = kd ∧ 1 ≤ a ∧ a ≤ gN h) ∧ ¬ (i < 0 ∨ (gS h a).2 ≤ i.toNatClampNeg) from o)]; exact k
theorem Tr.bz {x : Int32} (o : x = 0 ∨ x = 1) (k : Tr e Q) : Tr (Jvm.Pilot.@@N@@.bz x e) Q := by
  show Tr (if x = 0 ∨ x = 1 then e else none) Q
  rw [if_pos o]; exact k
theorem Tr.gp {o : Option Nat} {x : Nat} {f : Nat → Option (ρ × Hp)} (ho : o = some x) (k : Tr (f x) Q) : Tr (o.bind f) Q := by rw [ho]; exact k
theorem Tr.pos {c : Prop} [Decidable c] (hc : c) (k : Tr e1 Q) : Tr (if c then e1 else e2) Q := by rw [if_pos hc]; exact k
theorem Tr.neg {c : Prop} [Decidable c] (hc : ¬ c) (k : Tr e2 Q) : Tr (if c then e1 else e2) Q := by rw [if_neg hc]; exact k
theorem Tr.cs {c : Prop} [Decidable c] (k1 : c → Tr e1 Q) (k2 : ¬ c → Tr e2 Q) : Tr (if c then e1 else e2) Q := by
  by_cases hc : c
  · exact Tr.pos hc (k1 hc)
  · exact Tr.neg hc (k2 hc)
theorem Tr.bd {o : Option (ρ' × Hp)} {f : ρ' → Hp → Option (ρ × Hp)} (t : Tr o Q1) (k : ∀ r h, Q1 r h → Tr (f r h) Q) : Tr (Jvm.Pilot.@@N@@.bd o f) Q := by
  obtain ⟨r, h, rfl, q⟩ := t
  exact k r h q
/-- a callee that answers r and leaves the world h1 -/
theorem Tr.be {o : Option (ρ' × Hp)} {f : ρ' → Hp → Option (ρ × Hp)} {r : ρ'} {h1 : Hp} (t : o = some (r, h1)) (k : Tr (f r h1) Q) : Tr (Jvm.Pilot.@@N@@.bd o f) Q := by
  subst t; exact k
theorem Tr.imp {Q2 : ρ → Hp → Prop} (t : Tr e Q2) (k : ∀ r h, Q2 r h → Q r h) : Tr e Q := by
  obtain ⟨r, h, e, q⟩ := t
  exact ⟨r, h, e, k r h q⟩
theorem Tr.eq {r : ρ} {h1 : Hp} (t : e = some (r, h1)) (q : Q r h1) : Tr e Q := ⟨r, h1, t, q⟩
theorem Tr.of_eq {r : ρ} {h1 : Hp} (t : Tr e (fun r' h' => r' = r ∧ h' = h1)) : e = some (r, h1) := by
  obtain ⟨_, _, e, rfl, rfl⟩ := t
  exact e
/-- a loop: a measure falls -/
theorem Tr.loop {body : (σ → Option (ρ × Hp)) → σ → Option (ρ × Hp)} (I : Nat → σ → Prop) (step : ∀ (m : Nat) (s : σ) (k : σ → Option (ρ × Hp)), I m s → (∀ m' s', m' < m → I m' s' → Tr (k s') Q) → Tr (body k s) Q) : ∀ (n m : Nat) (s : σ), I m s → m < n → Tr (loopN body n s) Q := by
  intro n
  induction n with
  | zero => intro m s _ hm; omega
  | succ n ih =>
    intro m s hI hm
    show Tr (body (loopN body n) s) Q
    exact step m s _ hI (fun m' s' hlt hI' => ih m' s' hI' (by omega))
/-- a loop that counts from p up to N -/
theorem Tr.up {body : (σ → Option (ρ × Hp)) → σ → Option (ρ × Hp)} (N : Nat) (J : Nat → σ → Prop) (step : ∀ (p : Nat) (s : σ) (k : σ → Option (ρ × Hp)), p < N → J p s → (∀ s', J (p + 1) s' → Tr (k s') Q) → Tr (body k s) Q) (fin : ∀ (s : σ) (k : σ → Option (ρ × Hp)), J N s → Tr (body k s) Q) {n p : Nat} {s : σ} (h0 : J p s) (hp : p ≤ N) (hn : N < n) : Tr (loopN body n s) Q := by
  refine Tr.loop (fun m s => ∃ p, p ≤ N ∧ m = N - p ∧ J p s) ?_ n (N - p) s ⟨p, hp, rfl, h0⟩ (by omega)
  intro m s k hI hk
  obtain ⟨p, h1, h2, h3⟩ := hI
  rcases Nat.lt_or_ge p N with h4 | h4
  · exact step p s k h4 h3 (fun s' hs' => hk (N - (p + 1)) s' (by omega) ⟨p + 1, by omega, rfl, hs'⟩)
  · have : p = N := by omega
    subst this
    exact fin s k h3
/-- a loop that counts from p down to 0 -/
theorem Tr.down {body : (σ → Option (ρ × Hp)) → σ → Option (ρ × Hp)} (J : Nat → σ → Prop) (step : ∀ (p : Nat) (s : σ) (k : σ → Option (ρ × Hp)), J (p + 1) s → (∀ s', J p s' → Tr (k s') Q) → Tr (body k s) Q) (fin : ∀ (s : σ) (k : σ → Option (ρ × Hp)), J 0 s → Tr (body k s) Q) {n p : Nat} {s : σ} (h0 : J p s) (hn : p < n) : Tr (loopN body n s) Q := by
  refine Tr.loop (fun m s => J m s) ?_ n p s h0 hn
  intro m s k hI hk
  cases m with
  | zero => exact fin s k hI
  | succ p => exact step p s k hI (fun s' hs' => hk p s' (by omega) hs')
end TT
/-! rows of the world -/
def wI (h : Hp) (a : Nat) (f : Nat → Int32) : Hp := (h.1, h.2.1, h.2.2.1, (fun q => if q = a then f else h.2.2.2.1 q), h.2.2.2.2.1, h.2.2.2.2.2)
def wL (h : Hp) (a : Nat) (f : Nat → Int64) : Hp := (h.1, h.2.1, h.2.2.1, h.2.2.2.1, (fun q => if q = a then f else h.2.2.2.2.1 q), h.2.2.2.2.2)
theorem sI_w (h : Hp) (a k : Nat) (x : Int32) : sI h a k x = wI h a (va_up (gI h a) k x) := by
  unfold sI wI
  refine congrArg (fun f => (h.1, h.2.1, h.2.2.1, f, h.2.2.2.2.1, h.2.2.2.2.2)) ?_
  funext q
  show (if q = a then va_up (h.2.2.2.1 a) k x else h.2.2.2.1 q) = _
  by_cases hq : q = a
  · rw [if_pos hq, if_pos hq]; subst hq; rfl
  · rw [if_neg hq, if_neg hq]
theorem sL_w (h : Hp) (a k : Nat) (x : Int64) : sL h a k x = wL h a (va_up (gL h a) k x) := by
  unfold sL wL
  refine congrArg (fun f => (h.1, h.2.1, h.2.2.1, h.2.2.2.1, f, h.2.2.2.2.2)) ?_
  funext q
  show (if q = a then va_up (h.2.2.2.2.1 a) k x else h.2.2.2.2.1 q) = _
  by_cases hq : q = a
  · rw [if_pos hq, if_pos hq]; subst hq; rfl
  · rw [if_neg hq, if_neg hq]
theorem gI_wI {h : Hp} {a : Nat} {f : Nat → Int32} : gI (wI h a f) a = f := if_pos rfl
theorem gI_wI_ne {h : Hp} {a b : Nat} {f : Nat → Int32} (hb : b ≠ a) : gI (wI h a f) b = gI h b := if_neg hb
theorem gI_wL {h : Hp} {a b : Nat} {f : Nat → Int64} : gI (wL h a f) b = gI h b := rfl
theorem gL_wL {h : Hp} {a : Nat} {f : Nat → Int64} : gL (wL h a f) a = f := if_pos rfl
theorem gL_wL_ne {h : Hp} {a b : Nat} {f : Nat → Int64} (hb : b ≠ a) : gL (wL h a f) b = gL h b := if_neg hb
theorem gL_wI {h : Hp} {a b : Nat} {f : Nat → Int32} : gL (wI h a f) b = gL h b := rfl
theorem gS_wI {h : Hp} {a : Nat} {f : Nat → Int32} : gS (wI h a f) = gS h := rfl
theorem gS_wL {h : Hp} {a : Nat} {f : Nat → Int64} : gS (wL h a f) = gS h := rfl
theorem gP_wI {h : Hp} {a : Nat} {f : Nat → Int32} : gP (wI h a f) = gP h := rfl
theorem gP_wL {h : Hp} {a : Nat} {f : Nat → Int64} : gP (wL h a f) = gP h := rfl
theorem gN_wI {h : Hp} {a : Nat} {f : Nat → Int32} : gN (wI h a f) = gN h := rfl
theorem gN_wL {h : Hp} {a : Nat} {f : Nat → Int64} : gN (wL h a f) = gN h := rfl
theorem gI_sI {h : Hp} {a k : Nat} {x : Int32} : gI (sI h a k x) a = va_up (gI h a) k x := if_pos rfl
theorem gI_sI_ne {h : Hp} {a b k : Nat} {x : Int32} (hb : b ≠ a) : gI (sI h a k x) b = gI h b := if_neg hb
theorem gI_sL {h : Hp} {a b k : Nat} {x : Int64} : gI (sL h a k x) b = gI h b := rfl
theorem gI_sP {h : Hp} {a b k : Nat} {x : Option Nat} : gI (sP h a k x) b = gI h b := rfl
theorem gL_sL {h : Hp} {a k : Nat} {x : Int64} : gL (sL h a k x) a = va_up (gL h a) k x := if_pos rfl
theorem gL_sL_ne {h : Hp} {a b k : Nat} {x : Int64} (hb : b ≠ a) : gL (sL h a k x) b = gL h b := if_neg hb
theorem gL_sI {h : Hp} {a b k : Nat} {x : Int32} : gL (sI h a k x) b = gL h b := rfl
theorem gL_sP {h : Hp} {a b k : Nat} {x : Option Nat} : gL (sP h a k x) b = gL h b := rfl
theorem gP_sI {h : Hp} {a k : Nat} {x : Int32} : gP (sI h a k x) = gP h := rfl
theorem gP_sL {h : Hp} {a k : Nat} {x : Int64} : gP (sL h a k x) = gP h := rfl
theorem gP_sP {h : Hp} {a k : Nat} {x : Option Nat} : gP (sP h a k x) a = va_up (gP h a) k x := if_pos rfl
theorem gP_sP_ne {h : Hp} {a b k : Nat} {x : Option Nat} (hb : b ≠ a) : gP (sP h a k x) b = gP h b := if_neg hb
/-- one row put twice -/
theorem wI_wI {h : Hp} {a : Nat} {f g : Nat → Int32} : wI (wI h a f) a g = wI h a g := by
  unfold wI; congr; funext q
  by_cases hq : q = a
  · rw [if_pos hq, if_pos hq]
  · rw [if_neg hq, if_neg hq]; exact if_neg hq
theorem wL_wL {h : Hp} {a : Nat} {f g : Nat → Int64} : wL (wL h a f) a g = wL h a g := by
  unfold wL; congr; funext q
  by_cases hq : q = a
  · rw [if_pos hq, if_pos hq]
  · rw [if_neg hq, if_neg hq]; exact if_neg hq
theorem wI_self {h : Hp} {a : Nat} : wI h a (gI h a) = h := by
  have e : (fun q => if q = a then gI h a else h.2.2.2.1 q) = h.2.2.2.1 := by
    funext q
    by_cases hq : q = a
    · rw [if_pos hq]; subst hq; rfl
    · rw [if_neg hq]
  unfold wI; rw [e]
theorem wL_self {h : Hp} {a : Nat} : wL h a (gL h a) = h := by
  have e : (fun q => if q = a then gL h a else h.2.2.2.2.1 q) = h.2.2.2.2.1 := by
    funext q
    by_cases hq : q = a
    · rw [if_pos hq]; subst hq; rfl
    · rw [if_neg hq]
  unfold wL; rw [e]
theorem wI_comm {h : Hp} {a b : Nat} {f g : Nat → Int32} (hab : a ≠ b) : wI (wI h a f) b g = wI (wI h b g) a f := by
  unfold wI; congr; funext q
  by_cases hq : q = b
  · rw [if_pos hq, if_neg (fun e => hab (e.symm.trans hq))]; exact (if_pos hq).symm
  · rw [if_neg hq]
    by_cases hq2 : q = a
    · rw [if_pos hq2]; exact if_pos hq2
    · rw [if_neg hq2]
      show (if q = a then f else h.2.2.2.1 q) = (if q = b then g else h.2.2.2.1 q)
      rw [if_neg hq, if_neg hq2]
theorem upd_eq {α : Type} {f : Nat → α} {k : Nat} {v : α} : va_up f k v k = v := va_up_self ..
theorem upd_ne {α : Type} {f : Nat → α} {k j : Nat} {v : α} (h : j ≠ k) : va_up f k v j = f j := va_up_ne _ _ h
/-! THE WORLD AFTER THE TWO CONSTRUCTORS: kinds and lengths of the cells 1 .. 122 -/
def SSt : List (Nat × Nat) := [(0, 0), (9, 0), (20, 150), (23, 4), (2, 0), (20, 5), (24, 5), (4, 0), (20, 60), (20, 60), (4, 0), (20, 60), (20, 60), (4, 0), (20, 60), (20, 60), (4, 0), (20, 60), (20, 60), (4, 0), (20, 60), (20, 60), (20, 5), (3, 0), (20, 150), (20, 150), (21, 150), (4, 0), (20, 60), (20, 60), (1, 0), (22, 3840), (4, 0), (20, 60), (20, 60), (7, 0), (4, 0), (20, 60), (20, 60), (5, 0), (20, 360), (20, 60), (21, 60), (20, 60), (6, 0), (22, 64), (0, 0), (22, 64), (22, 64), (20, 85), (20, 85), (20, 340), (20, 64), (20, 85), (8, 0), (20, 64), (20, 64), (7, 0), (4, 0), (20, 60), (20, 60), (5, 0), (20, 360), (20, 60), (21, 60), (20, 60), (6, 0), (22, 64), (0, 0), (22, 64), (22, 64), (20, 85), (20, 85), (20, 340), (20, 64), (20, 85), (8, 0), (20, 64), (20, 64), (7, 0), (4, 0), (20, 60), (20, 60), (5, 0), (20, 360), (20, 60), (21, 60), (20, 60), (6, 0), (22, 64), (0, 0), (22, 64), (22, 64), (20, 85), (20, 85), (20, 340), (20, 64), (20, 85), (8, 0), (20, 64), (20, 64), (7, 0), (4, 0), (20, 60), (20, 60), (5, 0), (20, 360), (20, 60), (21, 60), (20, 60), (6, 0), (22, 64), (0, 0), (22, 64), (22, 64), (20, 85), (20, 85), (20, 340), (20, 64), (20, 85), (8, 0), (20, 64), (20, 64)]
def SS (a : Nat) : Nat × Nat := SSt.getD a (0, 0)
def PPt : List (List Nat) := [[], [2, 0, 3, 4, 22, 23, 30, 32], [], [35, 57, 79, 101], [5, 6], [], [], [8, 9], [], [], [11, 12], [], [], [14, 15], [], [], [17, 18], [], [], [20, 21], [], [], [], [24, 25, 0, 26, 0, 27], [], [], [], [28, 29], [], [], [31], [], [33, 34], [], [], [36, 39, 44, 46, 54], [37, 38], [], [], [40, 41, 42, 43], [], [], [], [], [45], [], [47, 48, 49, 50, 51, 0, 0, 0, 52, 53], [], [], [], [], [], [], [], [55, 56], [], [], [58, 61, 66, 68, 76], [59, 60], [], [], [62, 63, 64, 65], [], [], [], [], [67], [], [69, 70, 71, 72, 73, 0, 0, 0, 74, 75], [], [], [], [], [], [], [], [77, 78], [], [], [80, 83, 88, 90, 98], [81, 82], [], [], [84, 85, 86, 87], [], [], [], [], [89], [], [91, 92, 93, 94, 95, 0, 0, 0, 96, 97], [], [], [], [], [], [], [], [99, 100], [], [], [102, 105, 110, 112, 120], [103, 104], [], [], [106, 107, 108, 109], [], [], [], [], [111], [], [113, 114, 115, 116, 117, 0, 0, 0, 118, 119], [], [], [], [], [], [], [], [121, 122], [], []]
def PP (a k : Nat) : Nat := (PPt.getD a []).getD k 0
def Lay (h : Hp) : Prop := gN h = 122 ∧ (∀ a, 1 ≤ a → a ≤ 122 → gS h a = SS a) ∧ (∀ a k x, a ≠ 6 → PP a k = x + 1 → gP h a k = some (x + 1))
theorem Lay.o {h : Hp} {a ci : Nat} (L : Lay h) (e : (SS a).1 = ci) (h1 : 1 ≤ a) (h2 : a ≤ 122) : isO h a ci := ⟨by rw [L.2.1 a h1 h2]; exact e, h1, by rw [L.1]; exact h2⟩
theorem Lay.a {h : Hp} {a kd n j : Nat} (L : Lay h) (e : SS a = (kd, n)) (h1 : 1 ≤ a) (h2 : a ≤ 122) (hj : j < n) (hn : n < 2 ^ 31) : isA h a kd (nI j) := by
  have hS := (L.2.1 a h1 h2).trans e
  refine ⟨⟨by rw [hS], h1, by rw [L.1]; exact h2⟩, ?_⟩
  rw [hS]
  exact nI_in hj hn
theorem Lay.p {h : Hp} {a k x : Nat} (L : Lay h) (e : PP a k = x + 1) (h6 : a ≠ 6) : gP h a k = some (x + 1) := L.2.2 a k x h6 e
/-- what changes between two worlds: rows of the cells in A alone; the long field of 123 never, but where A has 3 -/
def Fr (A : Nat → Prop) (h h' : Hp) : Prop := gN h' = gN h ∧ gT h' = gT h ∧ gS h' = gS h ∧ (∀ a, (a ≠ 6 ∨ ¬ A a) → gP h' a = gP h a) ∧ (∀ a, ¬ A a → gI h' a = gI h a ∧ gL h' a = gL h a) ∧ (¬ A 3 → gL h' 123 = gL h 123)
theorem Fr.rf {A : Nat → Prop} {h : Hp} : Fr A h h := ⟨rfl, rfl, rfl, fun _ _ => rfl, fun _ _ => ⟨rfl, rfl⟩, fun _ => rfl⟩
theorem Fr.tr {A : Nat → Prop} {h h1 h2 : Hp} (x : Fr A h h1) (y : Fr A h1 h2) : Fr A h h2 :=
  ⟨y.1.trans x.1, y.2.1.trans x.2.1, y.2.2.1.trans x.2.2.1, fun a ha => (y.2.2.2.1 a ha).trans (x.2.2.2.1 a ha), fun a ha => ⟨(y.2.2.2.2.1 a ha).1.trans (x.2.2.2.2.1 a ha).1, (y.2.2.2.2.1 a ha).2.trans (x.2.2.2.2.1 a ha).2⟩, fun n => (y.2.2.2.2.2 n).trans (x.2.2.2.2.2 n)⟩
theorem Fr.wk {A B : Nat → Prop} {h h1 : Hp} (x : Fr A h h1) (hab : ∀ a, A a → B a) : Fr B h h1 :=
  ⟨x.1, x.2.1, x.2.2.1, fun a ha => x.2.2.2.1 a (ha.imp id (fun n q => n (hab a q))), fun a ha => x.2.2.2.2.1 a (fun q => ha (hab a q)), fun n => x.2.2.2.2.2 (fun q => n (hab 3 q))⟩
theorem Fr.wI {A : Nat → Prop} {h : Hp} {a : Nat} {f : Nat → Int32} (ha : A a) : Fr A h (wI h a f) := ⟨rfl, rfl, rfl, fun _ _ => rfl, fun b hb => ⟨gI_wI_ne (fun e => hb (by rw [e]; exact ha)), rfl⟩, fun _ => rfl⟩
theorem Fr.wL {A : Nat → Prop} {h : Hp} {a : Nat} {f : Nat → Int64} (ha : A a) (hn : a ≠ 123 := by omega) : Fr A h (wL h a f) := ⟨rfl, rfl, rfl, fun _ _ => rfl, fun b hb => ⟨rfl, gL_wL_ne (fun e => hb (by rw [e]; exact ha))⟩, fun _ => gL_wL_ne (fun e => hn e.symm)⟩
theorem Fr.sI {A : Nat → Prop} {h : Hp} {a k : Nat} {x : Int32} (ha : A a) : Fr A h (sI h a k x) := by rw [sI_w]; exact Fr.wI ha
theorem Fr.sL {A : Nat → Prop} {h : Hp} {a k : Nat} {x : Int64} (ha : A a) (hn : a ≠ 123 := by omega) : Fr A h (sL h a k x) := by rw [sL_w]; exact Fr.wL ha hn
theorem Fr.hs {A : Nat → Prop} {h h1 : Hp} (x : Fr A h h1) (ha : ¬ A 3) : gL h1 123 = gL h 123 := x.2.2.2.2.2 ha
theorem Fr.I {A : Nat → Prop} {h h1 : Hp} {a : Nat} (x : Fr A h h1) (ha : ¬ A a) : gI h1 a = gI h a := (x.2.2.2.2.1 a ha).1
theorem Fr.L {A : Nat → Prop} {h h1 : Hp} {a : Nat} (x : Fr A h h1) (ha : ¬ A a) : gL h1 a = gL h a := (x.2.2.2.2.1 a ha).2
theorem Fr.lay {A : Nat → Prop} {h h1 : Hp} (x : Fr A h h1) (L : Lay h) : Lay h1 :=
  ⟨x.1.trans L.1, fun a p q => by rw [x.2.2.1]; exact L.2.1 a p q, fun a k y h6 e => by rw [x.2.2.2.1 a (Or.inl h6)]; exact L.2.2 a k y h6 e⟩
theorem Lay.wI {h : Hp} {a : Nat} {f : Nat → Int32} (L : Lay h) : Lay (wI h a f) := L
theorem Lay.wL {h : Hp} {a : Nat} {f : Nat → Int64} (L : Lay h) : Lay (wL h a f) := L
theorem Lay.sI {h : Hp} {a k : Nat} {f : Int32} (L : Lay h) : Lay (sI h a k f) := L
theorem Lay.sL {h : Hp} {a k : Nat} {f : Int64} (L : Lay h) : Lay (sL h a k f) := L
theorem Lo_1 {h : Hp} (L : Lay h) : isO h 1 9 := L.o rfl (by decide) (by decide)
theorem Lp_1_0 {h : Hp} (L : Lay h) : gP h 1 0 = some 2 := L.p (x := 1) rfl (by decide)
theorem Lp_1_2 {h : Hp} (L : Lay h) : gP h 1 2 = some 3 := L.p (x := 2) rfl (by decide)
theorem Lp_1_3 {h : Hp} (L : Lay h) : gP h 1 3 = some 4 := L.p (x := 3) rfl (by decide)
theorem Lp_1_4 {h : Hp} (L : Lay h) : gP h 1 4 = some 22 := L.p (x := 21) rfl (by decide)
theorem Lp_1_5 {h : Hp} (L : Lay h) : gP h 1 5 = some 23 := L.p (x := 22) rfl (by decide)
theorem Lp_1_6 {h : Hp} (L : Lay h) : gP h 1 6 = some 30 := L.p (x := 29) rfl (by decide)
theorem Lp_1_7 {h : Hp} (L : Lay h) : gP h 1 7 = some 32 := L.p (x := 31) rfl (by decide)
theorem La_2 {h : Hp} {j : Nat} (L : Lay h) (hj : j < 150) : isA h 2 20 (nI j) := L.a (a := 2) rfl (by decide) (by decide) hj (by decide)
theorem La_3 {h : Hp} {j : Nat} (L : Lay h) (hj : j < 4) : isA h 3 23 (nI j) := L.a (a := 3) rfl (by decide) (by decide) hj (by decide)
theorem Lp_3_0 {h : Hp} (L : Lay h) : gP h 3 0 = some 35 := L.p (x := 34) rfl (by decide)
theorem Lp_3_1 {h : Hp} (L : Lay h) : gP h 3 1 = some 57 := L.p (x := 56) rfl (by decide)
theorem Lp_3_2 {h : Hp} (L : Lay h) : gP h 3 2 = some 79 := L.p (x := 78) rfl (by decide)
theorem Lp_3_3 {h : Hp} (L : Lay h) : gP h 3 3 = some 101 := L.p (x := 100) rfl (by decide)
theorem Lo_4 {h : Hp} (L : Lay h) : isO h 4 2 := L.o rfl (by decide) (by decide)
theorem Lp_4_0 {h : Hp} (L : Lay h) : gP h 4 0 = some 5 := L.p (x := 4) rfl (by decide)
theorem Lp_4_1 {h : Hp} (L : Lay h) : gP h 4 1 = some 6 := L.p (x := 5) rfl (by decide)
theorem La_5 {h : Hp} {j : Nat} (L : Lay h) (hj : j < 5) : isA h 5 20 (nI j) := L.a (a := 5) rfl (by decide) (by decide) hj (by decide)
theorem La_6 {h : Hp} {j : Nat} (L : Lay h) (hj : j < 5) : isA h 6 24 (nI j) := L.a (a := 6) rfl (by decide) (by decide) hj (by decide)
theorem Lo_7 {h : Hp} (L : Lay h) : isO h 7 4 := L.o rfl (by decide) (by decide)
theorem Lp_7_0 {h : Hp} (L : Lay h) : gP h 7 0 = some 8 := L.p (x := 7) rfl (by decide)
theorem Lp_7_1 {h : Hp} (L : Lay h) : gP h 7 1 = some 9 := L.p (x := 8) rfl (by decide)
theorem La_8 {h : Hp} {j : Nat} (L : Lay h) (hj : j < 60) : isA h 8 20 (nI j) := L.a (a := 8) rfl (by decide) (by decide) hj (by decide)
theorem La_9 {h : Hp} {j : Nat} (L : Lay h) (hj : j < 60) : isA h 9 20 (nI j) := L.a (a := 9) rfl (by decide) (by decide) hj (by decide)
theorem Lo_10 {h : Hp} (L : Lay h) : isO h 10 4 := L.o rfl (by decide) (by decide)
theorem Lp_10_0 {h : Hp} (L : Lay h) : gP h 10 0 = some 11 := L.p (x := 10) rfl (by decide)
theorem Lp_10_1 {h : Hp} (L : Lay h) : gP h 10 1 = some 12 := L.p (x := 11) rfl (by decide)
theorem La_11 {h : Hp} {j : Nat} (L : Lay h) (hj : j < 60) : isA h 11 20 (nI j) := L.a (a := 11) rfl (by decide) (by decide) hj (by decide)
theorem La_12 {h : Hp} {j : Nat} (L : Lay h) (hj : j < 60) : isA h 12 20 (nI j) := L.a (a := 12) rfl (by decide) (by decide) hj (by decide)
theorem Lo_13 {h : Hp} (L : Lay h) : isO h 13 4 := L.o rfl (by decide) (by decide)
theorem Lp_13_0 {h : Hp} (L : Lay h) : gP h 13 0 = some 14 := L.p (x := 13) rfl (by decide)
theorem Lp_13_1 {h : Hp} (L : Lay h) : gP h 13 1 = some 15 := L.p (x := 14) rfl (by decide)
theorem La_14 {h : Hp} {j : Nat} (L : Lay h) (hj : j < 60) : isA h 14 20 (nI j) := L.a (a := 14) rfl (by decide) (by decide) hj (by decide)
theorem La_15 {h : Hp} {j : Nat} (L : Lay h) (hj : j < 60) : isA h 15 20 (nI j) := L.a (a := 15) rfl (by decide) (by decide) hj (by decide)
theorem Lo_16 {h : Hp} (L : Lay h) : isO h 16 4 := L.o rfl (by decide) (by decide)
theorem Lp_16_0 {h : Hp} (L : Lay h) : gP h 16 0 = some 17 := L.p (x := 16) rfl (by decide)
theorem Lp_16_1 {h : Hp} (L : Lay h) : gP h 16 1 = some 18 := L.p (x := 17) rfl (by decide)
theorem La_17 {h : Hp} {j : Nat} (L : Lay h) (hj : j < 60) : isA h 17 20 (nI j) := L.a (a := 17) rfl (by decide) (by decide) hj (by decide)
theorem La_18 {h : Hp} {j : Nat} (L : Lay h) (hj : j < 60) : isA h 18 20 (nI j) := L.a (a := 18) rfl (by decide) (by decide) hj (by decide)
theorem Lo_19 {h : Hp} (L : Lay h) : isO h 19 4 := L.o rfl (by decide) (by decide)
theorem Lp_19_0 {h : Hp} (L : Lay h) : gP h 19 0 = some 20 := L.p (x := 19) rfl (by decide)
theorem Lp_19_1 {h : Hp} (L : Lay h) : gP h 19 1 = some 21 := L.p (x := 20) rfl (by decide)
theorem La_20 {h : Hp} {j : Nat} (L : Lay h) (hj : j < 60) : isA h 20 20 (nI j) := L.a (a := 20) rfl (by decide) (by decide) hj (by decide)
theorem La_21 {h : Hp} {j : Nat} (L : Lay h) (hj : j < 60) : isA h 21 20 (nI j) := L.a (a := 21) rfl (by decide) (by decide) hj (by decide)
theorem La_22 {h : Hp} {j : Nat} (L : Lay h) (hj : j < 5) : isA h 22 20 (nI j) := L.a (a := 22) rfl (by decide) (by decide) hj (by decide)
theorem Lo_23 {h : Hp} (L : Lay h) : isO h 23 3 := L.o rfl (by decide) (by decide)
theorem Lp_23_0 {h : Hp} (L : Lay h) : gP h 23 0 = some 24 := L.p (x := 23) rfl (by decide)
theorem Lp_23_1 {h : Hp} (L : Lay h) : gP h 23 1 = some 25 := L.p (x := 24) rfl (by decide)
theorem Lp_23_3 {h : Hp} (L : Lay h) : gP h 23 3 = some 26 := L.p (x := 25) rfl (by decide)
theorem Lp_23_5 {h : Hp} (L : Lay h) : gP h 23 5 = some 27 := L.p (x := 26) rfl (by decide)
theorem La_24 {h : Hp} {j : Nat} (L : Lay h) (hj : j < 150) : isA h 24 20 (nI j) := L.a (a := 24) rfl (by decide) (by decide) hj (by decide)
theorem La_25 {h : Hp} {j : Nat} (L : Lay h) (hj : j < 150) : isA h 25 20 (nI j) := L.a (a := 25) rfl (by decide) (by decide) hj (by decide)
theorem La_26 {h : Hp} {j : Nat} (L : Lay h) (hj : j < 150) : isA h 26 21 (nI j) := L.a (a := 26) rfl (by decide) (by decide) hj (by decide)
theorem Lo_27 {h : Hp} (L : Lay h) : isO h 27 4 := L.o rfl (by decide) (by decide)
theorem Lp_27_0 {h : Hp} (L : Lay h) : gP h 27 0 = some 28 := L.p (x := 27) rfl (by decide)
theorem Lp_27_1 {h : Hp} (L : Lay h) : gP h 27 1 = some 29 := L.p (x := 28) rfl (by decide)
theorem La_28 {h : Hp} {j : Nat} (L : Lay h) (hj : j < 60) : isA h 28 20 (nI j) := L.a (a := 28) rfl (by decide) (by decide) hj (by decide)
theorem La_29 {h : Hp} {j : Nat} (L : Lay h) (hj : j < 60) : isA h 29 20 (nI j) := L.a (a := 29) rfl (by decide) (by decide) hj (by decide)
theorem Lo_30 {h : Hp} (L : Lay h) : isO h 30 1 := L.o rfl (by decide) (by decide)
theorem Lp_30_0 {h : Hp} (L : Lay h) : gP h 30 0 = some 31 := L.p (x := 30) rfl (by decide)
theorem La_31 {h : Hp} {j : Nat} (L : Lay h) (hj : j < 3840) : isA h 31 22 (nI j) := L.a (a := 31) rfl (by decide) (by decide) hj (by decide)
theorem Lo_32 {h : Hp} (L : Lay h) : isO h 32 4 := L.o rfl (by decide) (by decide)
theorem Lp_32_0 {h : Hp} (L : Lay h) : gP h 32 0 = some 33 := L.p (x := 32) rfl (by decide)
theorem Lp_32_1 {h : Hp} (L : Lay h) : gP h 32 1 = some 34 := L.p (x := 33) rfl (by decide)
theorem La_33 {h : Hp} {j : Nat} (L : Lay h) (hj : j < 60) : isA h 33 20 (nI j) := L.a (a := 33) rfl (by decide) (by decide) hj (by decide)
theorem La_34 {h : Hp} {j : Nat} (L : Lay h) (hj : j < 60) : isA h 34 20 (nI j) := L.a (a := 34) rfl (by decide) (by decide) hj (by decide)
theorem PP3 : ∀ s, s < 4 → PP 3 s = 34 + 22 * s + 1 := by decide
theorem Lp_3 {h : Hp} {s : Nat} (L : Lay h) (hs : s < 4) : gP h 3 s = some (35 + 22 * s) := (L.p (PP3 s hs) (by decide)).trans (by rw [show 34 + 22 * s + 1 = 35 + 22 * s by omega])
theorem So0 : ∀ s, s < 4 → (SS (35 + 22 * s)).1 = 7 := by decide
theorem Lso_35 {h : Hp} {s : Nat} (L : Lay h) (hs : s < 4) : isO h (35 + 22 * s) 7 := L.o (So0 s hs) (by omega) (by omega)
theorem Sp0_0 : ∀ s, s < 4 → PP (35 + 22 * s) 0 = 35 + 22 * s + 1 := by decide
theorem Lsp_35_0 {h : Hp} {s : Nat} (L : Lay h) (hs : s < 4) : gP h (35 + 22 * s) 0 = some (36 + 22 * s) := (L.p (Sp0_0 s hs) (by omega)).trans (by rw [show 35 + 22 * s + 1 = 36 + 22 * s by omega])
theorem Sp0_1 : ∀ s, s < 4 → PP (35 + 22 * s) 1 = 38 + 22 * s + 1 := by decide
theorem Lsp_35_1 {h : Hp} {s : Nat} (L : Lay h) (hs : s < 4) : gP h (35 + 22 * s) 1 = some (39 + 22 * s) := (L.p (Sp0_1 s hs) (by omega)).trans (by rw [show 38 + 22 * s + 1 = 39 + 22 * s by omega])
theorem Sp0_2 : ∀ s, s < 4 → PP (35 + 22 * s) 2 = 43 + 22 * s + 1 := by decide
theorem Lsp_35_2 {h : Hp} {s : Nat} (L : Lay h) (hs : s < 4) : gP h (35 + 22 * s) 2 = some (44 + 22 * s) := (L.p (Sp0_2 s hs) (by omega)).trans (by rw [show 43 + 22 * s + 1 = 44 + 22 * s by omega])
theorem Sp0_3 : ∀ s, s < 4 → PP (35 + 22 * s) 3 = 45 + 22 * s + 1 := by decide
theorem Lsp_35_3 {h : Hp} {s : Nat} (L : Lay h) (hs : s < 4) : gP h (35 + 22 * s) 3 = some (46 + 22 * s) := (L.p (Sp0_3 s hs) (by omega)).trans (by rw [show 45 + 22 * s + 1 = 46 + 22 * s by omega])
theorem Sp0_4 : ∀ s, s < 4 → PP (35 + 22 * s) 4 = 53 + 22 * s + 1 := by decide
theorem Lsp_35_4 {h : Hp} {s : Nat} (L : Lay h) (hs : s < 4) : gP h (35 + 22 * s) 4 = some (54 + 22 * s) := (L.p (Sp0_4 s hs) (by omega)).trans (by rw [show 53 + 22 * s + 1 = 54 + 22 * s by omega])
theorem So1 : ∀ s, s < 4 → (SS (36 + 22 * s)).1 = 4 := by decide
theorem Lso_36 {h : Hp} {s : Nat} (L : Lay h) (hs : s < 4) : isO h (36 + 22 * s) 4 := L.o (So1 s hs) (by omega) (by omega)
theorem Sp1_0 : ∀ s, s < 4 → PP (36 + 22 * s) 0 = 36 + 22 * s + 1 := by decide
theorem Lsp_36_0 {h : Hp} {s : Nat} (L : Lay h) (hs : s < 4) : gP h (36 + 22 * s) 0 = some (37 + 22 * s) := (L.p (Sp1_0 s hs) (by omega)).trans (by rw [show 36 + 22 * s + 1 = 37 + 22 * s by omega])
theorem Sp1_1 : ∀ s, s < 4 → PP (36 + 22 * s) 1 = 37 + 22 * s + 1 := by decide
theorem Lsp_36_1 {h : Hp} {s : Nat} (L : Lay h) (hs : s < 4) : gP h (36 + 22 * s) 1 = some (38 + 22 * s) := (L.p (Sp1_1 s hs) (by omega)).trans (by rw [show 37 + 22 * s + 1 = 38 + 22 * s by omega])
theorem So2 : ∀ s, s < 4 → SS (37 + 22 * s) = (20, 60) := by decide
theorem Lsa_37 {h : Hp} {s j : Nat} (L : Lay h) (hs : s < 4) (hj : j < 60) : isA h (37 + 22 * s) 20 (nI j) := L.a (So2 s hs) (by omega) (by omega) hj (by decide)
theorem So3 : ∀ s, s < 4 → SS (38 + 22 * s) = (20, 60) := by decide
theorem Lsa_38 {h : Hp} {s j : Nat} (L : Lay h) (hs : s < 4) (hj : j < 60) : isA h (38 + 22 * s) 20 (nI j) := L.a (So3 s hs) (by omega) (by omega) hj (by decide)
theorem So4 : ∀ s, s < 4 → (SS (39 + 22 * s)).1 = 5 := by decide
theorem Lso_39 {h : Hp} {s : Nat} (L : Lay h) (hs : s < 4) : isO h (39 + 22 * s) 5 := L.o (So4 s hs) (by omega) (by omega)
theorem Sp4_0 : ∀ s, s < 4 → PP (39 + 22 * s) 0 = 39 + 22 * s + 1 := by decide
theorem Lsp_39_0 {h : Hp} {s : Nat} (L : Lay h) (hs : s < 4) : gP h (39 + 22 * s) 0 = some (40 + 22 * s) := (L.p (Sp4_0 s hs) (by omega)).trans (by rw [show 39 + 22 * s + 1 = 40 + 22 * s by omega])
theorem Sp4_1 : ∀ s, s < 4 → PP (39 + 22 * s) 1 = 40 + 22 * s + 1 := by decide
theorem Lsp_39_1 {h : Hp} {s : Nat} (L : Lay h) (hs : s < 4) : gP h (39 + 22 * s) 1 = some (41 + 22 * s) := (L.p (Sp4_1 s hs) (by omega)).trans (by rw [show 40 + 22 * s + 1 = 41 + 22 * s by omega])
theorem Sp4_2 : ∀ s, s < 4 → PP (39 + 22 * s) 2 = 41 + 22 * s + 1 := by decide
theorem Lsp_39_2 {h : Hp} {s : Nat} (L : Lay h) (hs : s < 4) : gP h (39 + 22 * s) 2 = some (42 + 22 * s) := (L.p (Sp4_2 s hs) (by omega)).trans (by rw [show 41 + 22 * s + 1 = 42 + 22 * s by omega])
theorem Sp4_3 : ∀ s, s < 4 → PP (39 + 22 * s) 3 = 42 + 22 * s + 1 := by decide
theorem Lsp_39_3 {h : Hp} {s : Nat} (L : Lay h) (hs : s < 4) : gP h (39 + 22 * s) 3 = some (43 + 22 * s) := (L.p (Sp4_3 s hs) (by omega)).trans (by rw [show 42 + 22 * s + 1 = 43 + 22 * s by omega])
theorem So5 : ∀ s, s < 4 → SS (40 + 22 * s) = (20, 360) := by decide
theorem Lsa_40 {h : Hp} {s j : Nat} (L : Lay h) (hs : s < 4) (hj : j < 360) : isA h (40 + 22 * s) 20 (nI j) := L.a (So5 s hs) (by omega) (by omega) hj (by decide)
theorem So6 : ∀ s, s < 4 → SS (41 + 22 * s) = (20, 60) := by decide
theorem Lsa_41 {h : Hp} {s j : Nat} (L : Lay h) (hs : s < 4) (hj : j < 60) : isA h (41 + 22 * s) 20 (nI j) := L.a (So6 s hs) (by omega) (by omega) hj (by decide)
theorem So7 : ∀ s, s < 4 → SS (42 + 22 * s) = (21, 60) := by decide
theorem Lsa_42 {h : Hp} {s j : Nat} (L : Lay h) (hs : s < 4) (hj : j < 60) : isA h (42 + 22 * s) 21 (nI j) := L.a (So7 s hs) (by omega) (by omega) hj (by decide)
theorem So8 : ∀ s, s < 4 → SS (43 + 22 * s) = (20, 60) := by decide
theorem Lsa_43 {h : Hp} {s j : Nat} (L : Lay h) (hs : s < 4) (hj : j < 60) : isA h (43 + 22 * s) 20 (nI j) := L.a (So8 s hs) (by omega) (by omega) hj (by decide)
theorem So9 : ∀ s, s < 4 → (SS (44 + 22 * s)).1 = 6 := by decide
theorem Lso_44 {h : Hp} {s : Nat} (L : Lay h) (hs : s < 4) : isO h (44 + 22 * s) 6 := L.o (So9 s hs) (by omega) (by omega)
theorem Sp9_0 : ∀ s, s < 4 → PP (44 + 22 * s) 0 = 44 + 22 * s + 1 := by decide
theorem Lsp_44_0 {h : Hp} {s : Nat} (L : Lay h) (hs : s < 4) : gP h (44 + 22 * s) 0 = some (45 + 22 * s) := (L.p (Sp9_0 s hs) (by omega)).trans (by rw [show 44 + 22 * s + 1 = 45 + 22 * s by omega])
theorem So10 : ∀ s, s < 4 → SS (45 + 22 * s) = (22, 64) := by decide
theorem Lsa_45 {h : Hp} {s j : Nat} (L : Lay h) (hs : s < 4) (hj : j < 64) : isA h (45 + 22 * s) 22 (nI j) := L.a (So10 s hs) (by omega) (by omega) hj (by decide)
theorem So11 : ∀ s, s < 4 → (SS (46 + 22 * s)).1 = 0 := by decide
theorem Lso_46 {h : Hp} {s : Nat} (L : Lay h) (hs : s < 4) : isO h (46 + 22 * s) 0 := L.o (So11 s hs) (by omega) (by omega)
theorem Sp11_0 : ∀ s, s < 4 → PP (46 + 22 * s) 0 = 46 + 22 * s + 1 := by decide
theorem Lsp_46_0 {h : Hp} {s : Nat} (L : Lay h) (hs : s < 4) : gP h (46 + 22 * s) 0 = some (47 + 22 * s) := (L.p (Sp11_0 s hs) (by omega)).trans (by rw [show 46 + 22 * s + 1 = 47 + 22 * s by omega])
theorem Sp11_1 : ∀ s, s < 4 → PP (46 + 22 * s) 1 = 47 + 22 * s + 1 := by decide
theorem Lsp_46_1 {h : Hp} {s : Nat} (L : Lay h) (hs : s < 4) : gP h (46 + 22 * s) 1 = some (48 + 22 * s) := (L.p (Sp11_1 s hs) (by omega)).trans (by rw [show 47 + 22 * s + 1 = 48 + 22 * s by omega])
theorem Sp11_2 : ∀ s, s < 4 → PP (46 + 22 * s) 2 = 48 + 22 * s + 1 := by decide
theorem Lsp_46_2 {h : Hp} {s : Nat} (L : Lay h) (hs : s < 4) : gP h (46 + 22 * s) 2 = some (49 + 22 * s) := (L.p (Sp11_2 s hs) (by omega)).trans (by rw [show 48 + 22 * s + 1 = 49 + 22 * s by omega])
theorem Sp11_3 : ∀ s, s < 4 → PP (46 + 22 * s) 3 = 49 + 22 * s + 1 := by decide
theorem Lsp_46_3 {h : Hp} {s : Nat} (L : Lay h) (hs : s < 4) : gP h (46 + 22 * s) 3 = some (50 + 22 * s) := (L.p (Sp11_3 s hs) (by omega)).trans (by rw [show 49 + 22 * s + 1 = 50 + 22 * s by omega])
theorem Sp11_4 : ∀ s, s < 4 → PP (46 + 22 * s) 4 = 50 + 22 * s + 1 := by decide
theorem Lsp_46_4 {h : Hp} {s : Nat} (L : Lay h) (hs : s < 4) : gP h (46 + 22 * s) 4 = some (51 + 22 * s) := (L.p (Sp11_4 s hs) (by omega)).trans (by rw [show 50 + 22 * s + 1 = 51 + 22 * s by omega])
theorem Sp11_8 : ∀ s, s < 4 → PP (46 + 22 * s) 8 = 51 + 22 * s + 1 := by decide
theorem Lsp_46_8 {h : Hp} {s : Nat} (L : Lay h) (hs : s < 4) : gP h (46 + 22 * s) 8 = some (52 + 22 * s) := (L.p (Sp11_8 s hs) (by omega)).trans (by rw [show 51 + 22 * s + 1 = 52 + 22 * s by omega])
theorem Sp11_9 : ∀ s, s < 4 → PP (46 + 22 * s) 9 = 52 + 22 * s + 1 := by decide
theorem Lsp_46_9 {h : Hp} {s : Nat} (L : Lay h) (hs : s < 4) : gP h (46 + 22 * s) 9 = some (53 + 22 * s) := (L.p (Sp11_9 s hs) (by omega)).trans (by rw [show 52 + 22 * s + 1 = 53 + 22 * s by omega])
theorem So12 : ∀ s, s < 4 → SS (47 + 22 * s) = (22, 64) := by decide
theorem Lsa_47 {h : Hp} {s j : Nat} (L : Lay h) (hs : s < 4) (hj : j < 64) : isA h (47 + 22 * s) 22 (nI j) := L.a (So12 s hs) (by omega) (by omega) hj (by decide)
theorem So13 : ∀ s, s < 4 → SS (48 + 22 * s) = (22, 64) := by decide
theorem Lsa_48 {h : Hp} {s j : Nat} (L : Lay h) (hs : s < 4) (hj : j < 64) : isA h (48 + 22 * s) 22 (nI j) := L.a (So13 s hs) (by omega) (by omega) hj (by decide)
theorem So14 : ∀ s, s < 4 → SS (49 + 22 * s) = (20, 85) := by decide
theorem Lsa_49 {h : Hp} {s j : Nat} (L : Lay h) (hs : s < 4) (hj : j < 85) : isA h (49 + 22 * s) 20 (nI j) := L.a (So14 s hs) (by omega) (by omega) hj (by decide)
theorem So15 : ∀ s, s < 4 → SS (50 + 22 * s) = (20, 85) := by decide
theorem Lsa_50 {h : Hp} {s j : Nat} (L : Lay h) (hs : s < 4) (hj : j < 85) : isA h (50 + 22 * s) 20 (nI j) := L.a (So15 s hs) (by omega) (by omega) hj (by decide)
theorem So16 : ∀ s, s < 4 → SS (51 + 22 * s) = (20, 340) := by decide
theorem Lsa_51 {h : Hp} {s j : Nat} (L : Lay h) (hs : s < 4) (hj : j < 340) : isA h (51 + 22 * s) 20 (nI j) := L.a (So16 s hs) (by omega) (by omega) hj (by decide)
theorem So17 : ∀ s, s < 4 → SS (52 + 22 * s) = (20, 64) := by decide
theorem Lsa_52 {h : Hp} {s j : Nat} (L : Lay h) (hs : s < 4) (hj : j < 64) : isA h (52 + 22 * s) 20 (nI j) := L.a (So17 s hs) (by omega) (by omega) hj (by decide)
theorem So18 : ∀ s, s < 4 → SS (53 + 22 * s) = (20, 85) := by decide
theorem Lsa_53 {h : Hp} {s j : Nat} (L : Lay h) (hs : s < 4) (hj : j < 85) : isA h (53 + 22 * s) 20 (nI j) := L.a (So18 s hs) (by omega) (by omega) hj (by decide)
theorem So19 : ∀ s, s < 4 → (SS (54 + 22 * s)).1 = 8 := by decide
theorem Lso_54 {h : Hp} {s : Nat} (L : Lay h) (hs : s < 4) : isO h (54 + 22 * s) 8 := L.o (So19 s hs) (by omega) (by omega)
theorem Sp19_0 : ∀ s, s < 4 → PP (54 + 22 * s) 0 = 54 + 22 * s + 1 := by decide
theorem Lsp_54_0 {h : Hp} {s : Nat} (L : Lay h) (hs : s < 4) : gP h (54 + 22 * s) 0 = some (55 + 22 * s) := (L.p (Sp19_0 s hs) (by omega)).trans (by rw [show 54 + 22 * s + 1 = 55 + 22 * s by omega])
theorem Sp19_1 : ∀ s, s < 4 → PP (54 + 22 * s) 1 = 55 + 22 * s + 1 := by decide
theorem Lsp_54_1 {h : Hp} {s : Nat} (L : Lay h) (hs : s < 4) : gP h (54 + 22 * s) 1 = some (56 + 22 * s) := (L.p (Sp19_1 s hs) (by omega)).trans (by rw [show 55 + 22 * s + 1 = 56 + 22 * s by omega])
theorem So20 : ∀ s, s < 4 → SS (55 + 22 * s) = (20, 64) := by decide
theorem Lsa_55 {h : Hp} {s j : Nat} (L : Lay h) (hs : s < 4) (hj : j < 64) : isA h (55 + 22 * s) 20 (nI j) := L.a (So20 s hs) (by omega) (by omega) hj (by decide)
theorem So21 : ∀ s, s < 4 → SS (56 + 22 * s) = (20, 64) := by decide
theorem Lsa_56 {h : Hp} {s j : Nat} (L : Lay h) (hs : s < 4) (hj : j < 64) : isA h (56 + 22 * s) 20 (nI j) := L.a (So21 s hs) (by omega) (by omega) hj (by decide)
theorem Lay.n {h : Hp} {a kd n : Nat} (L : Lay h) (e : SS a = (kd, n)) (h1 : 1 ≤ a) (h2 : a ≤ 122) : (gS h a).2 = n := by rw [L.2.1 a h1 h2, e]
theorem Lk_2 {h : Hp} (L : Lay h) : isO h 2 20 := L.o rfl (by decide) (by decide)
theorem Ln_2 {h : Hp} (L : Lay h) : (gS h 2).2 = 150 := L.n (a := 2) (kd := 20) rfl (by decide) (by decide)
theorem Lk_3 {h : Hp} (L : Lay h) : isO h 3 23 := L.o rfl (by decide) (by decide)
theorem Ln_3 {h : Hp} (L : Lay h) : (gS h 3).2 = 4 := L.n (a := 3) (kd := 23) rfl (by decide) (by decide)
theorem Lk_5 {h : Hp} (L : Lay h) : isO h 5 20 := L.o rfl (by decide) (by decide)
theorem Ln_5 {h : Hp} (L : Lay h) : (gS h 5).2 = 5 := L.n (a := 5) (kd := 20) rfl (by decide) (by decide)
theorem Lk_6 {h : Hp} (L : Lay h) : isO h 6 24 := L.o rfl (by decide) (by decide)
theorem Ln_6 {h : Hp} (L : Lay h) : (gS h 6).2 = 5 := L.n (a := 6) (kd := 24) rfl (by decide) (by decide)
theorem Lk_8 {h : Hp} (L : Lay h) : isO h 8 20 := L.o rfl (by decide) (by decide)
theorem Ln_8 {h : Hp} (L : Lay h) : (gS h 8).2 = 60 := L.n (a := 8) (kd := 20) rfl (by decide) (by decide)
theorem Lk_9 {h : Hp} (L : Lay h) : isO h 9 20 := L.o rfl (by decide) (by decide)
theorem Ln_9 {h : Hp} (L : Lay h) : (gS h 9).2 = 60 := L.n (a := 9) (kd := 20) rfl (by decide) (by decide)
theorem Lk_11 {h : Hp} (L : Lay h) : isO h 11 20 := L.o rfl (by decide) (by decide)
theorem Ln_11 {h : Hp} (L : Lay h) : (gS h 11).2 = 60 := L.n (a := 11) (kd := 20) rfl (by decide) (by decide)
theorem Lk_12 {h : Hp} (L : Lay h) : isO h 12 20 := L.o rfl (by decide) (by decide)
theorem Ln_12 {h : Hp} (L : Lay h) : (gS h 12).2 = 60 := L.n (a := 12) (kd := 20) rfl (by decide) (by decide)
theorem Lk_14 {h : Hp} (L : Lay h) : isO h 14 20 := L.o rfl (by decide) (by decide)
theorem Ln_14 {h : Hp} (L : Lay h) : (gS h 14).2 = 60 := L.n (a := 14) (kd := 20) rfl (by decide) (by decide)
theorem Lk_15 {h : Hp} (L : Lay h) : isO h 15 20 := L.o rfl (by decide) (by decide)
theorem Ln_15 {h : Hp} (L : Lay h) : (gS h 15).2 = 60 := L.n (a := 15) (kd := 20) rfl (by decide) (by decide)
theorem Lk_17 {h : Hp} (L : Lay h) : isO h 17 20 := L.o rfl (by decide) (by decide)
theorem Ln_17 {h : Hp} (L : Lay h) : (gS h 17).2 = 60 := L.n (a := 17) (kd := 20) rfl (by decide) (by decide)
theorem Lk_18 {h : Hp} (L : Lay h) : isO h 18 20 := L.o rfl (by decide) (by decide)
theorem Ln_18 {h : Hp} (L : Lay h) : (gS h 18).2 = 60 := L.n (a := 18) (kd := 20) rfl (by decide) (by decide)
theorem Lk_20 {h : Hp} (L : Lay h) : isO h 20 20 := L.o rfl (by decide) (by decide)
theorem Ln_20 {h : Hp} (L : Lay h) : (gS h 20).2 = 60 := L.n (a := 20) (kd := 20) rfl (by decide) (by decide)
theorem Lk_21 {h : Hp} (L : Lay h) : isO h 21 20 := L.o rfl (by decide) (by decide)
theorem Ln_21 {h : Hp} (L : Lay h) : (gS h 21).2 = 60 := L.n (a := 21) (kd := 20) rfl (by decide) (by decide)
theorem Lk_22 {h : Hp} (L : Lay h) : isO h 22 20 := L.o rfl (by decide) (by decide)
theorem Ln_22 {h : Hp} (L : Lay h) : (gS h 22).2 = 5 := L.n (a := 22) (kd := 20) rfl (by decide) (by decide)
theorem Lk_24 {h : Hp} (L : Lay h) : isO h 24 20 := L.o rfl (by decide) (by decide)
theorem Ln_24 {h : Hp} (L : Lay h) : (gS h 24).2 = 150 := L.n (a := 24) (kd := 20) rfl (by decide) (by decide)
theorem Lk_25 {h : Hp} (L : Lay h) : isO h 25 20 := L.o rfl (by decide) (by decide)
theorem Ln_25 {h : Hp} (L : Lay h) : (gS h 25).2 = 150 := L.n (a := 25) (kd := 20) rfl (by decide) (by decide)
theorem Lk_26 {h : Hp} (L : Lay h) : isO h 26 21 := L.o rfl (by decide) (by decide)
theorem Ln_26 {h : Hp} (L : Lay h) : (gS h 26).2 = 150 := L.n (a := 26) (kd := 21) rfl (by decide) (by decide)
theorem Lk_28 {h : Hp} (L : Lay h) : isO h 28 20 := L.o rfl (by decide) (by decide)
theorem Ln_28 {h : Hp} (L : Lay h) : (gS h 28).2 = 60 := L.n (a := 28) (kd := 20) rfl (by decide) (by decide)
theorem Lk_29 {h : Hp} (L : Lay h) : isO h 29 20 := L.o rfl (by decide) (by decide)
theorem Ln_29 {h : Hp} (L : Lay h) : (gS h 29).2 = 60 := L.n (a := 29) (kd := 20) rfl (by decide) (by decide)
theorem Lk_31 {h : Hp} (L : Lay h) : isO h 31 22 := L.o rfl (by decide) (by decide)
theorem Ln_31 {h : Hp} (L : Lay h) : (gS h 31).2 = 3840 := L.n (a := 31) (kd := 22) rfl (by decide) (by decide)
theorem Lk_33 {h : Hp} (L : Lay h) : isO h 33 20 := L.o rfl (by decide) (by decide)
theorem Ln_33 {h : Hp} (L : Lay h) : (gS h 33).2 = 60 := L.n (a := 33) (kd := 20) rfl (by decide) (by decide)
theorem Lk_34 {h : Hp} (L : Lay h) : isO h 34 20 := L.o rfl (by decide) (by decide)
theorem Ln_34 {h : Hp} (L : Lay h) : (gS h 34).2 = 60 := L.n (a := 34) (kd := 20) rfl (by decide) (by decide)
theorem Lsk_37 {h : Hp} {s : Nat} (L : Lay h) (hs : s < 4) : isO h (37 + 22 * s) 20 := L.o (by rw [So2 s hs]) (by omega) (by omega)
theorem Lsn_37 {h : Hp} {s : Nat} (L : Lay h) (hs : s < 4) : (gS h (37 + 22 * s)).2 = 60 := L.n (So2 s hs) (by omega) (by omega)
theorem Lsk_38 {h : Hp} {s : Nat} (L : Lay h) (hs : s < 4) : isO h (38 + 22 * s) 20 := L.o (by rw [So3 s hs]) (by omega) (by omega)
theorem Lsn_38 {h : Hp} {s : Nat} (L : Lay h) (hs : s < 4) : (gS h (38 + 22 * s)).2 = 60 := L.n (So3 s hs) (by omega) (by omega)
theorem Lsk_40 {h : Hp} {s : Nat} (L : Lay h) (hs : s < 4) : isO h (40 + 22 * s) 20 := L.o (by rw [So5 s hs]) (by omega) (by omega)
theorem Lsn_40 {h : Hp} {s : Nat} (L : Lay h) (hs : s < 4) : (gS h (40 + 22 * s)).2 = 360 := L.n (So5 s hs) (by omega) (by omega)
theorem Lsk_41 {h : Hp} {s : Nat} (L : Lay h) (hs : s < 4) : isO h (41 + 22 * s) 20 := L.o (by rw [So6 s hs]) (by omega) (by omega)
theorem Lsn_41 {h : Hp} {s : Nat} (L : Lay h) (hs : s < 4) : (gS h (41 + 22 * s)).2 = 60 := L.n (So6 s hs) (by omega) (by omega)
theorem Lsk_42 {h : Hp} {s : Nat} (L : Lay h) (hs : s < 4) : isO h (42 + 22 * s) 21 := L.o (by rw [So7 s hs]) (by omega) (by omega)
theorem Lsn_42 {h : Hp} {s : Nat} (L : Lay h) (hs : s < 4) : (gS h (42 + 22 * s)).2 = 60 := L.n (So7 s hs) (by omega) (by omega)
theorem Lsk_43 {h : Hp} {s : Nat} (L : Lay h) (hs : s < 4) : isO h (43 + 22 * s) 20 := L.o (by rw [So8 s hs]) (by omega) (by omega)
theorem Lsn_43 {h : Hp} {s : Nat} (L : Lay h) (hs : s < 4) : (gS h (43 + 22 * s)).2 = 60 := L.n (So8 s hs) (by omega) (by omega)
theorem Lsk_45 {h : Hp} {s : Nat} (L : Lay h) (hs : s < 4) : isO h (45 + 22 * s) 22 := L.o (by rw [So10 s hs]) (by omega) (by omega)
theorem Lsn_45 {h : Hp} {s : Nat} (L : Lay h) (hs : s < 4) : (gS h (45 + 22 * s)).2 = 64 := L.n (So10 s hs) (by omega) (by omega)
theorem Lsk_47 {h : Hp} {s : Nat} (L : Lay h) (hs : s < 4) : isO h (47 + 22 * s) 22 := L.o (by rw [So12 s hs]) (by omega) (by omega)
theorem Lsn_47 {h : Hp} {s : Nat} (L : Lay h) (hs : s < 4) : (gS h (47 + 22 * s)).2 = 64 := L.n (So12 s hs) (by omega) (by omega)
theorem Lsk_48 {h : Hp} {s : Nat} (L : Lay h) (hs : s < 4) : isO h (48 + 22 * s) 22 := L.o (by rw [So13 s hs]) (by omega) (by omega)
theorem Lsn_48 {h : Hp} {s : Nat} (L : Lay h) (hs : s < 4) : (gS h (48 + 22 * s)).2 = 64 := L.n (So13 s hs) (by omega) (by omega)
theorem Lsk_49 {h : Hp} {s : Nat} (L : Lay h) (hs : s < 4) : isO h (49 + 22 * s) 20 := L.o (by rw [So14 s hs]) (by omega) (by omega)
theorem Lsn_49 {h : Hp} {s : Nat} (L : Lay h) (hs : s < 4) : (gS h (49 + 22 * s)).2 = 85 := L.n (So14 s hs) (by omega) (by omega)
theorem Lsk_50 {h : Hp} {s : Nat} (L : Lay h) (hs : s < 4) : isO h (50 + 22 * s) 20 := L.o (by rw [So15 s hs]) (by omega) (by omega)
theorem Lsn_50 {h : Hp} {s : Nat} (L : Lay h) (hs : s < 4) : (gS h (50 + 22 * s)).2 = 85 := L.n (So15 s hs) (by omega) (by omega)
theorem Lsk_51 {h : Hp} {s : Nat} (L : Lay h) (hs : s < 4) : isO h (51 + 22 * s) 20 := L.o (by rw [So16 s hs]) (by omega) (by omega)
theorem Lsn_51 {h : Hp} {s : Nat} (L : Lay h) (hs : s < 4) : (gS h (51 + 22 * s)).2 = 340 := L.n (So16 s hs) (by omega) (by omega)
theorem Lsk_52 {h : Hp} {s : Nat} (L : Lay h) (hs : s < 4) : isO h (52 + 22 * s) 20 := L.o (by rw [So17 s hs]) (by omega) (by omega)
theorem Lsn_52 {h : Hp} {s : Nat} (L : Lay h) (hs : s < 4) : (gS h (52 + 22 * s)).2 = 64 := L.n (So17 s hs) (by omega) (by omega)
theorem Lsk_53 {h : Hp} {s : Nat} (L : Lay h) (hs : s < 4) : isO h (53 + 22 * s) 20 := L.o (by rw [So18 s hs]) (by omega) (by omega)
theorem Lsn_53 {h : Hp} {s : Nat} (L : Lay h) (hs : s < 4) : (gS h (53 + 22 * s)).2 = 85 := L.n (So18 s hs) (by omega) (by omega)
theorem Lsk_55 {h : Hp} {s : Nat} (L : Lay h) (hs : s < 4) : isO h (55 + 22 * s) 20 := L.o (by rw [So20 s hs]) (by omega) (by omega)
theorem Lsn_55 {h : Hp} {s : Nat} (L : Lay h) (hs : s < 4) : (gS h (55 + 22 * s)).2 = 64 := L.n (So20 s hs) (by omega) (by omega)
theorem Lsk_56 {h : Hp} {s : Nat} (L : Lay h) (hs : s < 4) : isO h (56 + 22 * s) 20 := L.o (by rw [So21 s hs]) (by omega) (by omega)
theorem Lsn_56 {h : Hp} {s : Nat} (L : Lay h) (hs : s < 4) : (gS h (56 + 22 * s)).2 = 64 := L.n (So21 s hs) (by omega) (by omega)
def PAl : List Nat := [7, 10, 13, 16, 19, 27, 32, 36, 58, 80, 102]
def PA (p : Nat) : Prop := p ∈ PAl
theorem PA_all : ∀ p ∈ PAl, ((SS p).1 = 4 ∧ PP p 0 = p + 1 ∧ PP p 1 = p + 1 + 1 ∧ SS (p + 1) = (20, 60) ∧ SS (p + 2) = (20, 60)) ∧ 7 ≤ p ∧ p + 2 ≤ 104 := by decide
theorem PA_s {s : Nat} (hs : s < 4) : PA (36 + 22 * s) := by
  match s, hs with
  | 0, _ => exact (by decide : (36 : Nat) ∈ PAl)
  | 1, _ => exact (by decide : (58 : Nat) ∈ PAl)
  | 2, _ => exact (by decide : (80 : Nat) ∈ PAl)
  | 3, _ => exact (by decide : (102 : Nat) ∈ PAl)
theorem Lpo {h : Hp} {p : Nat} (L : Lay h) (hp : PA p) : isO h p 4 := by
  have q := PA_all p hp
  exact L.o q.1.1 (by omega) (by omega)
theorem Lp0 {h : Hp} {p : Nat} (L : Lay h) (hp : PA p) : gP h p 0 = some (p + 1) := by
  have q := PA_all p hp
  exact L.p q.1.2.1 (by omega)
theorem Lp1 {h : Hp} {p : Nat} (L : Lay h) (hp : PA p) : gP h p 1 = some (p + 2) := by
  have q := PA_all p hp
  exact L.p q.1.2.2.1 (by omega)
theorem Lpa1 {h : Hp} {p j : Nat} (L : Lay h) (hp : PA p) (hj : j < 60) : isA h (p + 1) 20 (nI j) := by
  have q := PA_all p hp
  exact L.a q.1.2.2.2.1 (by omega) (by omega) hj (by decide)
theorem Lpa2 {h : Hp} {p j : Nat} (L : Lay h) (hp : PA p) (hj : j < 60) : isA h (p + 2) 20 (nI j) := by
  have q := PA_all p hp
  exact L.a q.1.2.2.2.2 (by omega) (by omega) hj (by decide)

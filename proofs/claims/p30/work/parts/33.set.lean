/-! SETS: unions over a set, closures -/
def orF (s : Int64) (f : Nat → Int64) : Nat → Int64
  | 0 => 0
  | q + 1 => orF s f q ||| (if bq s q then f q else 0)
/-- what a set is turned into -/
def seqI (s : Int64) (f : Nat → Int64) : Int64 := orF s f 64
theorem bq_orF (s : Int64) (f : Nat → Int64) (i : Nat) : ∀ n, bq (orF s f n) i = true ↔ ∃ q, q < n ∧ bq s q = true ∧ bq (f q) i = true := by
  intro n
  induction n with
  | zero => exact ⟨fun h => (by rw [show orF s f 0 = 0 from rfl, bq_0] at h; cases h), fun ⟨q, h, _⟩ => absurd h (Nat.not_lt_zero _)⟩
  | succ n ih =>
    show bq (orF s f n ||| _) i = true ↔ _
    rw [bq_or, Bool.or_eq_true, ih]
    constructor
    · rintro (⟨q, h1, h2⟩ | h)
      · exact ⟨q, by omega, h2⟩
      · cases hb : bq s n with
        | true => rw [hb, if_pos rfl] at h; exact ⟨n, by omega, hb, h⟩
        | false => rw [hb, if_neg (by decide), bq_0] at h; cases h
    · rintro ⟨q, h1, h2, h3⟩
      by_cases hq : q = n
      · subst hq; rw [h2, if_pos rfl]; exact Or.inr h3
      · exact Or.inl ⟨q, by omega, h2, h3⟩
theorem bq_seqI (s : Int64) (f : Nat → Int64) (i : Nat) : bq (seqI s f) i = true ↔ ∃ q, q < 64 ∧ bq s q = true ∧ bq (f q) i = true := bq_orF s f i 64
theorem bq_eq {x y : Int64} (h : ∀ q, q < 64 → (bq x q = true ↔ bq y q = true)) : x = y := bq_ext (fun q hq => by
  have := h q hq
  cases h1 : bq x q <;> cases h2 : bq y q <;> simp [h1, h2] at this ⊢)
theorem seqI_congr {s : Int64} {f g : Nat → Int64} (h : ∀ q, q < 64 → f q = g q) : seqI s f = seqI s g := bq_eq (fun i _ => by
  rw [bq_seqI, bq_seqI]
  exact ⟨fun ⟨q, a, b, c⟩ => ⟨q, a, b, by rw [← h q a]; exact c⟩, fun ⟨q, a, b, c⟩ => ⟨q, a, b, by rw [h q a]; exact c⟩⟩)
def mkI (P : Nat → Bool) : Nat → Int64
  | 0 => 0
  | n + 1 => mkI P n ||| (if P n then ob n else 0)
theorem bq_mkI (P : Nat → Bool) {i : Nat} (hi : i < 64) : ∀ n, n ≤ 64 → bq (mkI P n) i = (decide (i < n) && P i) := by
  intro n
  induction n with
  | zero => intro _; rw [decide_eq_false (Nat.not_lt_zero _)]; exact bq_0 i
  | succ n ih =>
    intro hn
    show bq (mkI P n ||| _) i = _
    rw [bq_or, ih (by omega)]
    by_cases e : i = n
    · subst e
      rw [decide_eq_false (Nat.lt_irrefl _), decide_eq_true (Nat.lt_succ_self _)]
      cases hp : P i with
      | true => rw [if_pos rfl, bq_ob i hi i hi, decide_eq_true rfl]; rfl
      | false => rw [if_neg (by decide), bq_0]; rfl
    · have : (decide (i < n + 1)) = decide (i < n) := by
        by_cases h : i < n
        · rw [decide_eq_true h, decide_eq_true (by omega)]
        · rw [decide_eq_false h, decide_eq_false (by omega)]
      rw [this]
      cases hp : P n with
      | true => rw [if_pos rfl, bq_ob n (by omega) i hi, decide_eq_false e, Bool.or_false]
      | false => rw [if_neg (by decide), bq_0, Bool.or_false]
/-- a way of n steps -/
def pth (f : Nat → Int64) : Nat → Nat → Nat → Prop
  | 0, p, q => p = q
  | n + 1, p, q => ∃ r, r < 64 ∧ bq (f p) r = true ∧ pth f n r q
def Rch (f : Nat → Int64) (p q : Nat) : Prop := ∃ n, pth f n p q
theorem Rch.rf {f : Nat → Int64} {p : Nat} : Rch f p p := ⟨0, rfl⟩
theorem Rch.st {f : Nat → Int64} {p r q : Nat} (hr : r < 64) (h : bq (f p) r = true) (t : Rch f r q) : Rch f p q := by
  obtain ⟨n, hn⟩ := t
  exact ⟨n + 1, r, hr, h, hn⟩
theorem pth_tr {f : Nat → Int64} {q r : Nat} (t : Rch f q r) : ∀ (n p : Nat), pth f n p q → Rch f p r
  | 0, p, h => by rw [show p = q from h]; exact t
  | n + 1, p, h => by
    obtain ⟨x, h1, h2, h3⟩ := h
    exact Rch.st h1 h2 (pth_tr t n x h3)
theorem Rch.tr {f : Nat → Int64} {p q r : Nat} (s : Rch f p q) (t : Rch f q r) : Rch f p r := by
  obtain ⟨n, hn⟩ := s
  exact pth_tr t n p hn
theorem Rch.ind {f : Nat → Int64} {S : Nat → Prop} (hS : ∀ r q, S r → q < 64 → bq (f r) q = true → S q) {p q : Nat} (h : Rch f p q) (hp : S p) : S q := by
  obtain ⟨n, hn⟩ := h
  have : ∀ (n p : Nat), pth f n p q → S p → S q := by
    intro n
    induction n with
    | zero => intro p h hp; rw [← show p = q from h]; exact hp
    | succ n ih =>
      intro p h hp
      obtain ⟨x, h1, h2, h3⟩ := h
      exact ih x h3 (hS p x hp h1 h2)
  exact this n p hn hp
theorem Rch.lt {f : Nat → Int64} {p q : Nat} (h : Rch f p q) (hp : p < 64) : q < 64 := h.ind (S := fun x => x < 64) (fun _ _ _ h _ => h) hp
noncomputable def starI (f : Nat → Int64) (p : Nat) : Int64 := mkI (fun q => @decide (Rch f p q) (Classical.propDecidable _)) 64
theorem bq_starI (f : Nat → Int64) (p : Nat) {q : Nat} (hq : q < 64) : bq (starI f p) q = true ↔ Rch f p q := by
  unfold starI
  rw [bq_mkI _ hq 64 (Nat.le_refl _), decide_eq_true hq, Bool.true_and]
  exact @decide_eq_true_iff _ (Classical.propDecidable _)
theorem starI_congr {f g : Nat → Int64} (h : ∀ p, p < 64 → f p = g p) {p : Nat} (hp : p < 64) : starI f p = starI g p := bq_eq (fun q hq => by
  rw [bq_starI f p hq, bq_starI g p hq]
  constructor
  · intro t
    exact (t.ind (S := fun x => x < 64 ∧ Rch g p x) (fun r q ⟨h1, h2⟩ hq hb => ⟨hq, h2.tr (Rch.st hq (by rw [← h r h1]; exact hb) Rch.rf)⟩) ⟨hp, Rch.rf⟩).2
  · intro t
    exact (t.ind (S := fun x => x < 64 ∧ Rch f p x) (fun r q ⟨h1, h2⟩ hq hb => ⟨hq, h2.tr (Rch.st hq (by rw [h r h1]; exact hb) Rch.rf)⟩) ⟨hp, Rch.rf⟩).2)
/-! packets: values of fields -/
def vlN (p f : Nat) : Nat := if f = 0 then p / 16 % 4 else if f = 1 then p / 4 % 4 else p % 4
def wvN (p f v : Nat) : Nat := if f = 0 then p % 16 + 16 * v else if f = 1 then p / 16 * 16 + p % 4 + 4 * v else p / 4 * 4 + v
theorem vlN_lt (p f : Nat) : vlN p f < 4 := by unfold vlN; split <;> (try split) <;> omega
theorem wvN_lt {p v : Nat} (f : Nat) (hp : p < 64) (hv : v < 4) : wvN p f v < 64 := by unfold wvN; split <;> (try split) <;> omega
def leafI (c p : Nat) : Int64 := if c < 16 then 0 else if c < 32 then ob p else if c < 48 then (if vlN p (c / 4 % 4) = c % 4 then ob p else 0) else ob (wvN p (c / 4 % 4) (c % 4))
/-- what a node turns the packets into, out of what its operands do -/
noncomputable def opI (c : Nat) (a0 a1 a2 : Nat → Int64) : Nat → Int64 :=
  if c < 64 then leafI c
  else if c < 80 then fun p => a1 p ||| a0 p
  else if c < 96 then fun p => seqI (a1 p) a0
  else if c < 112 then starI a0
  else if c < 128 then fun p => if a0 p = 0 then ob p else 0
  else fun p => if a2 p = 0 then a0 p else a1 p
def zI : Nat → Int64 := fun _ => 0
theorem opI_congr {c : Nat} {a0 a1 a2 b0 b1 b2 : Nat → Int64} (h0 : 0 < ar c → ∀ p, p < 64 → a0 p = b0 p) (h1 : 1 < ar c → ∀ p, p < 64 → a1 p = b1 p) (h2 : 2 < ar c → ∀ p, p < 64 → a2 p = b2 p) {p : Nat} (hp : p < 64) : opI c a0 a1 a2 p = opI c b0 b1 b2 p := by
  unfold ar at h0 h1 h2
  unfold opI
  by_cases c1 : c < 64
  · rw [if_pos c1, if_pos c1]
  rw [if_neg c1, if_neg c1]
  rw [if_neg c1] at h0 h1 h2
  by_cases c2 : c < 80
  · rw [if_pos c2, if_pos c2]
    rw [if_pos (by omega)] at h0 h1
    show a1 p ||| a0 p = b1 p ||| b0 p
    rw [h0 (by decide) p hp, h1 (by decide) p hp]
  rw [if_neg c2, if_neg c2]
  by_cases c3 : c < 96
  · rw [if_pos c3, if_pos c3]
    rw [if_pos c3] at h0 h1
    show seqI (a1 p) a0 = seqI (b1 p) b0
    rw [h1 (by decide) p hp, seqI_congr (h0 (by decide))]
  rw [if_neg c3, if_neg c3]
  rw [if_neg c3] at h0 h1 h2
  by_cases c4 : c < 112
  · rw [if_pos c4, if_pos c4]
    rw [if_pos (by omega)] at h0
    exact starI_congr (h0 (by decide)) hp
  rw [if_neg c4, if_neg c4]
  by_cases c5 : c < 128
  · rw [if_pos c5, if_pos c5]
    rw [if_pos c5] at h0
    show (if a0 p = 0 then _ else _) = (if b0 p = 0 then _ else _)
    rw [h0 (by decide) p hp]
  rw [if_neg c5, if_neg c5]
  rw [if_neg c5] at h0 h1 h2
  show (if a2 p = 0 then a0 p else a1 p) = (if b2 p = 0 then b0 p else b1 p)
  rw [h0 (by decide) p hp, h1 (by decide) p hp, h2 (by decide) p hp]

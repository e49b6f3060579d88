/-! DIAGRAMS: things that exist once, in the order in which they come -/
section LST
def ixo {α : Type} [DecidableEq α] : List α → α → Nat
  | [], _ => 0
  | y :: t, x => if y = x then 0 else ixo t x + 1
def insA {α : Type} [DecidableEq α] (L : List α) (x : α) : List α := if x ∈ L then L else L ++ [x]
theorem ixo_le {α : Type} [DecidableEq α] : ∀ (L : List α) (x : α), ixo L x ≤ L.length := by
  intro L
  induction L with
  | nil => intro x; exact Nat.le_refl _
  | cons y t ih =>
    intro x
    unfold ixo
    split
    · exact Nat.zero_le _
    · have := ih x; rw [List.length_cons]; omega
theorem ixo_lt {α : Type} [DecidableEq α] {L : List α} {x : α} (h : x ∈ L) : ixo L x < L.length := by
  induction L with
  | nil => cases h
  | cons y t ih =>
    unfold ixo
    split
    · rw [List.length_cons]; omega
    · rename_i hy
      rcases List.mem_cons.mp h with e | e
      · exact absurd e.symm hy
      · have := ih e; rw [List.length_cons]; omega
theorem ixo_get {α : Type} [DecidableEq α] {L : List α} {x : α} (h : x ∈ L) : L[ixo L x]? = some x := by
  induction L with
  | nil => cases h
  | cons y t ih =>
    unfold ixo
    split
    · rename_i hy; rw [hy]; rfl
    · rename_i hy
      rcases List.mem_cons.mp h with e | e
      · exact absurd e.symm hy
      · rw [List.getElem?_cons_succ]; exact ih e
theorem ixo_no {α : Type} [DecidableEq α] {L : List α} {x : α} : ∀ {j : Nat}, j < ixo L x → L[j]? ≠ some x := by
  induction L with
  | nil => intro j h; exact absurd h (Nat.not_lt_zero _)
  | cons y t ih =>
    intro j h
    unfold ixo at h
    split at h
    · exact absurd h (Nat.not_lt_zero _)
    · rename_i hy
      cases j with
      | zero => intro e; exact hy (Option.some.inj e)
      | succ j => rw [List.getElem?_cons_succ]; exact ih (by omega)
theorem ixo_eq {α : Type} [DecidableEq α] {L : List α} {x : α} {i : Nat} (h : L[i]? = some x) (h2 : ∀ j, j < i → L[j]? ≠ some x) : ixo L x = i := by
  have hm : x ∈ L := List.mem_of_getElem? h
  rcases Nat.lt_trichotomy (ixo L x) i with c | c | c
  · exact absurd (ixo_get hm) (h2 _ c)
  · exact c
  · exact absurd h (ixo_no c)
theorem ixo_out {α : Type} [DecidableEq α] {L : List α} {x : α} (h : x ∉ L) : ixo L x = L.length := by
  induction L with
  | nil => rfl
  | cons y t ih =>
    unfold ixo
    rw [if_neg (fun e => h (by rw [e]; exact List.mem_cons_self)), ih (fun e => h (List.mem_cons_of_mem _ e)), List.length_cons]
theorem ixo_app {α : Type} [DecidableEq α] {L M : List α} {x : α} (h : x ∈ L) : ixo (L ++ M) x = ixo L x := by
  refine ixo_eq ?_ (fun j hj => ?_)
  · rw [List.getElem?_append_left (ixo_lt h)]; exact ixo_get h
  · rw [List.getElem?_append_left (by have := ixo_lt h; omega)]; exact ixo_no hj
theorem ixo_snoc {α : Type} [DecidableEq α] {L : List α} {x : α} (h : x ∉ L) : ixo (L ++ [x]) x = L.length := by
  refine ixo_eq ?_ (fun j hj => ?_)
  · rw [List.getElem?_append_right (Nat.le_refl _)]; simp
  · rw [List.getElem?_append_left hj]; exact fun e => h (List.mem_of_getElem? e)
theorem ixo_inj {α : Type} [DecidableEq α] {L : List α} {x y : α} (hx : x ∈ L) (hy : y ∈ L) (e : ixo L x = ixo L y) : x = y := by
  have h1 := ixo_get hx
  rw [e, ixo_get hy] at h1
  exact (Option.some.inj h1).symm
theorem mem_insA {α : Type} [DecidableEq α] {L : List α} {x : α} : x ∈ insA L x := by
  unfold insA
  split
  · assumption
  · exact List.mem_append_right _ List.mem_cons_self
theorem insA_pre {α : Type} [DecidableEq α] {L : List α} {x : α} : ∃ M, insA L x = L ++ M := by
  unfold insA
  split
  · exact ⟨[], by simp⟩
  · exact ⟨[x], rfl⟩
theorem insA_sub {α : Type} [DecidableEq α] {L : List α} {x y : α} (h : y ∈ insA L x) : y ∈ L ∨ y = x := by
  unfold insA at h
  split at h
  · exact Or.inl h
  · rcases List.mem_append.mp h with e | e
    · exact Or.inl e
    · exact Or.inr (by simpa using e)
theorem insA_len {α : Type} [DecidableEq α] {L : List α} {x : α} : (insA L x).length ≤ L.length + 1 := by
  unfold insA
  split
  · omega
  · simp
/-- after n things -/
def lvs {α : Type} [DecidableEq α] (x : Nat → α) (L : List α) : Nat → List α
  | 0 => L
  | n + 1 => insA (lvs x L n) (x n)
theorem lvs_len {α : Type} [DecidableEq α] (x : Nat → α) (L : List α) : ∀ n, (lvs x L n).length ≤ L.length + n := by
  intro n
  induction n with
  | zero => exact Nat.le_refl _
  | succ n ih => have := insA_len (L := lvs x L n) (x := x n); show (insA _ _).length ≤ _; omega
theorem lvs_pre {α : Type} [DecidableEq α] (x : Nat → α) (L : List α) : ∀ {m n : Nat}, m ≤ n → ∃ M, lvs x L n = lvs x L m ++ M := by
  intro m n h
  induction n with
  | zero => have : m = 0 := by omega
            subst this; exact ⟨[], by simp⟩
  | succ n ih =>
    by_cases c : m = n + 1
    · subst c; exact ⟨[], by simp⟩
    · obtain ⟨M, e⟩ := ih (by omega)
      obtain ⟨M2, e2⟩ := insA_pre (L := lvs x L n) (x := x n)
      exact ⟨M ++ M2, by show insA _ _ = _; rw [e2, e, List.append_assoc]⟩
theorem lvs_mem {α : Type} [DecidableEq α] (x : Nat → α) (L : List α) {m n : Nat} (h : m < n) : x m ∈ lvs x L n := by
  obtain ⟨M, e⟩ := lvs_pre x L (show m + 1 ≤ n by omega)
  rw [e]
  exact List.mem_append_left _ mem_insA
theorem lvs_ix {α : Type} [DecidableEq α] (x : Nat → α) (L : List α) {m n k : Nat} (h : m < n) (hk : n ≤ k) : ixo (lvs x L k) (x m) = ixo (lvs x L n) (x m) := by
  obtain ⟨M, e⟩ := lvs_pre x L hk
  rw [e]
  exact ixo_app (lvs_mem x L h)
end LST
/-- a test node: its field, its four children -/
abbrev TE : Type := Nat × List Nat
def alq (b : Nat → Nat) (k : Nat) : Bool := b (4 * k) == b (4 * k + 1) && (b (4 * k) == b (4 * k + 2) && b (4 * k) == b (4 * k + 3))
def tsk (f : Nat) (b : Nat → Nat) (k : Nat) : TE := (f, [b (4 * k), b (4 * k + 1), b (4 * k + 2), b (4 * k + 3)])
def tss (f : Nat) (b : Nat → Nat) (T : List TE) : Nat → List TE
  | 0 => T
  | n + 1 => if alq b n then tss f b T n else insA (tss f b T n) (tsk f b n)
def nid (o f : Nat) (b : Nat → Nat) (T : List TE) (k : Nat) : Nat := if alq b k then b (4 * k) else o + ixo T (tsk f b k)
theorem tss_s (f : Nat) (b : Nat → Nat) (T : List TE) (n : Nat) : tss f b T (n + 1) = if alq b n then tss f b T n else insA (tss f b T n) (tsk f b n) := rfl
theorem tss_len (f : Nat) (b : Nat → Nat) (T : List TE) : ∀ n, (tss f b T n).length ≤ T.length + n := by
  intro n
  induction n with
  | zero => exact Nat.le_refl _
  | succ n ih =>
    unfold tss
    split
    · omega
    · have := insA_len (L := tss f b T n) (x := tsk f b n); omega
theorem tss_pre (f : Nat) (b : Nat → Nat) (T : List TE) : ∀ {m n : Nat}, m ≤ n → ∃ M, tss f b T n = tss f b T m ++ M := by
  intro m n h
  induction n with
  | zero => have : m = 0 := by omega
            subst this; exact ⟨[], by simp⟩
  | succ n ih =>
    by_cases c : m = n + 1
    · subst c; exact ⟨[], by simp⟩
    · obtain ⟨M, e⟩ := ih (by omega)
      rw [tss_s]
      split
      · exact ⟨M, e⟩
      · obtain ⟨M2, e2⟩ := insA_pre (L := tss f b T n) (x := tsk f b n)
        exact ⟨M ++ M2, by rw [e2, e, List.append_assoc]⟩
theorem tss_mem (f : Nat) (b : Nat → Nat) (T : List TE) {m n : Nat} (h : m < n) (ha : alq b m = false) : tsk f b m ∈ tss f b T n := by
  obtain ⟨M, e⟩ := tss_pre f b T (show m + 1 ≤ n by omega)
  rw [e]
  refine List.mem_append_left _ ?_
  unfold tss
  rw [if_neg (by rw [ha]; decide)]
  exact mem_insA
theorem nid_pre (o f : Nat) (b : Nat → Nat) (T : List TE) {m n k : Nat} (h : m < n) (hk : n ≤ k) : nid o f b (tss f b T k) m = nid o f b (tss f b T n) m := by
  unfold nid
  cases ha : alq b m with
  | true => rfl
  | false =>
    obtain ⟨M, e⟩ := tss_pre f b T hk
    rw [e, ixo_app (tss_mem f b T h ha)]
/-- depths of the tests, one behind the other -/
def mx4 (g : Nat → Nat) : Nat := mxF g 4
def dpi (o : Nat) (D : List Nat) (i : Nat) : Nat := if i < o then 0 else D.getD (i - o) 0
def dpE (o : Nat) (D : List Nat) (e : TE) : Nat := mx4 (fun v => dpi o D (e.2.getD v 0)) + 1
def dps (o : Nat) (T : List TE) : List Nat := T.foldl (fun D e => D ++ [dpE o D e]) []
theorem dps_snoc (o : Nat) (T : List TE) (e : TE) : dps o (T ++ [e]) = dps o T ++ [dpE o (dps o T) e] := by
  unfold dps; rw [List.foldl_append]; rfl
theorem dps_len (o : Nat) : ∀ T : List TE, (dps o T).length = T.length := by
  intro T
  have : ∀ (n : Nat) (T : List TE), T.length = n → (dps o T).length = n := by
    intro n
    induction n with
    | zero => intro T h; rw [List.length_eq_zero_iff.mp h]; rfl
    | succ n ih =>
      intro T h
      obtain ⟨T', e, rfl⟩ : ∃ T' e, T = T' ++ [e] := by
        rcases List.eq_nil_or_concat T with h0 | ⟨T', e, h1⟩
        · rw [h0] at h; cases h
        · exact ⟨T', e, by rw [h1, List.concat_eq_append]⟩
      rw [dps_snoc, List.length_append, ih T' (by simpa using h)]; rfl
  exact this _ T rfl
/-! actions -/
def aE (p q f : Nat) : Nat := if vlN q f = vlN p f then 4 else vlN q f
def aN (p q : Nat) : Nat := 25 * aE p q 0 + 5 * aE p q 1 + aE p q 2
theorem aE_lt (p q f : Nat) : aE p q f < 5 := by unfold aE; have := vlN_lt q f; split <;> omega
theorem aN_lt (p q : Nat) : aN p q < 125 := by
  have := aE_lt p q 0; have := aE_lt p q 1; have := aE_lt p q 2
  unfold aN; omega
noncomputable def actL (p : Nat) (S : Int64) : Int64 := mkI (fun a => @decide (∃ q, q < 64 ∧ bq S q = true ∧ aN p q = a) (Classical.propDecidable _)) 64
noncomputable def actH (p : Nat) (S : Int64) : Int64 := mkI (fun a => @decide (∃ q, q < 64 ∧ bq S q = true ∧ aN p q = a + 64) (Classical.propDecidable _)) 64
theorem bq_actL {p : Nat} {S : Int64} {a : Nat} (ha : a < 64) : bq (actL p S) a = true ↔ ∃ q, q < 64 ∧ bq S q = true ∧ aN p q = a := by
  unfold actL
  rw [bq_mkI _ ha 64 (Nat.le_refl _), decide_eq_true ha, Bool.true_and]
  exact @decide_eq_true_iff _ (Classical.propDecidable _)
theorem bq_actH {p : Nat} {S : Int64} {a : Nat} (ha : a < 64) : bq (actH p S) a = true ↔ ∃ q, q < 64 ∧ bq S q = true ∧ aN p q = a + 64 := by
  unfold actH
  rw [bq_mkI _ ha 64 (Nat.le_refl _), decide_eq_true ha, Bool.true_and]
  exact @decide_eq_true_iff _ (Classical.propDecidable _)
noncomputable def acts (R : Nat → Int64) (p : Nat) : Int64 × Int64 := (actL p (R p), actH p (R p))
/-! a relation's diagram, drawn behind leaves L and tests T; the id of test k is o + k -/
noncomputable def dL (R : Nat → Int64) (L : List (Int64 × Int64)) : List (Int64 × Int64) := lvs (acts R) L 64
noncomputable def dB3 (R : Nat → Int64) (L : List (Int64 × Int64)) (p : Nat) : Nat := ixo (dL R L) (acts R p)
noncomputable def dT2 (R : Nat → Int64) (L : List (Int64 × Int64)) (T : List TE) : List TE := tss 2 (dB3 R L) T 16
noncomputable def dB2 (o : Nat) (R : Nat → Int64) (L : List (Int64 × Int64)) (T : List TE) (k : Nat) : Nat := nid o 2 (dB3 R L) (dT2 R L T) k
noncomputable def dT1 (o : Nat) (R : Nat → Int64) (L : List (Int64 × Int64)) (T : List TE) : List TE := tss 1 (dB2 o R L T) (dT2 R L T) 4
noncomputable def dB1 (o : Nat) (R : Nat → Int64) (L : List (Int64 × Int64)) (T : List TE) (k : Nat) : Nat := nid o 1 (dB2 o R L T) (dT1 o R L T) k
noncomputable def dT0 (o : Nat) (R : Nat → Int64) (L : List (Int64 × Int64)) (T : List TE) : List TE := tss 0 (dB1 o R L T) (dT1 o R L T) 1
noncomputable def dRt (o : Nat) (R : Nat → Int64) (L : List (Int64 × Int64)) (T : List TE) : Nat := nid o 0 (dB1 o R L T) (dT0 o R L T) 0

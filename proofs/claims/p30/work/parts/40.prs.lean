/-! PRINTED FORMS -/
def ndK (o i : Nat) (last : Bool) : Bool :=
  if o = 4 then last && i == 4 else if o = 5 then i == 4 || (last && i == 5) else if o = 6 then i == 4 || i == 5 || i == 7 else if o = 7 then i == 4 || i == 5 else false
def wrS (b : Bool) (s : List Nat) : List Nat := if b then 40 :: (s ++ [41]) else s
theorem wrS_len (b : Bool) (s : List Nat) : (wrS b s).length = s.length + (if b then 2 else 0) := by
  cases b
  · rfl
  · show (40 :: (s ++ [41])).length = _; simp
def opS (c : Nat) (a0 a1 a2 : Nat × List Nat) : Nat × List Nat :=
  (c, if c < 32 then [48 + c / 16]
    else if c < 48 then [120 + c / 4 % 4, 61, 48 + c % 4]
    else if c < 64 then [120 + c / 4 % 4, 58, 48 + c % 4]
    else if c < 80 then wrS (ndK (c / 16) (a1.1 / 16) false) a1.2 ++ 43 :: wrS (ndK (c / 16) (a0.1 / 16) true) a0.2
    else if c < 96 then wrS (ndK (c / 16) (a1.1 / 16) false) a1.2 ++ 46 :: wrS (ndK (c / 16) (a0.1 / 16) true) a0.2
    else if c < 112 then wrS (ndK (c / 16) (a0.1 / 16) true) a0.2 ++ [42]
    else if c < 128 then 33 :: wrS (ndK (c / 16) (a0.1 / 16) true) a0.2
    else 91 :: (wrS (ndK (c / 16) (a2.1 / 16) false) a2.2 ++ 63 :: (wrS (ndK (c / 16) (a1.1 / 16) false) a1.2 ++ 124 :: (wrS (ndK (c / 16) (a0.1 / 16) true) a0.2 ++ [93]))))
def zS : Nat × List Nat := (0, [])
def str (c : Nat → Nat) (k : Nat) : List Nat := (nd zS opS c k).2
theorem nd_code (c : Nat → Nat) (k : Nat) : (nd zS opS c k).1 = c k := rfl
/-- the i-th operand of a node, as it is printed in it -/
def opj (c : Nat → Nat) (k i : Nat) : Nat := upN c k i - 1
def ndj (c : Nat → Nat) (k i : Nat) : Bool := ndK (c k / 16) (c (opj c k i) / 16) (i == 0)
def pw (c : Nat → Nat) (k i : Nat) : List Nat := wrS (ndj c k i) (str c (opj c k i))
theorem opj_eq {c : Nat → Nat} {k i : Nat} (h : i < (rt c k).length) : opj c k i = (rt c k)[i] := by
  unfold opj; rw [rt_getD h, Nat.add_sub_cancel]
theorem opj_lt {c : Nat → Nat} {k i : Nat} (h : i < (rt c k).length) : opj c k i < k := by
  rw [opj_eq h]; exact rt_lt c k _ (List.getElem_mem h)
section STR
variable {c : Nat → Nat} {k : Nat}
theorem fld_op {i : Nat} (h : i < (rt c k).length) : (fld zS opS c k).getD i zS = (c (opj c k i), str c (opj c k i)) := by
  rw [fld_get zS opS h]; rfl
theorem str_lf (h : c k < 64) : str c k = if c k < 32 then [48 + c k / 16] else if c k < 48 then [120 + c k / 4 % 4, 61, 48 + c k % 4] else [120 + c k / 4 % 4, 58, 48 + c k % 4] := by
  unfold str nd opS
  by_cases h1 : c k < 32
  · simp only [if_pos h1]
  · by_cases h2 : c k < 48
    · simp only [if_neg h1, if_pos h2]
    · simp only [if_neg h1, if_neg h2, if_pos h]
theorem str_64 (h : c k = 64) (ok : ar (c k) ≤ (rt c k).length) : str c k = pw c k 1 ++ 43 :: pw c k 0 := by
  rw [h] at ok
  have e0 := fld_op (c := c) (k := k) (i := 0) (Nat.lt_of_lt_of_le (by decide) ok)
  have e1 := fld_op (c := c) (k := k) (i := 1) (Nat.lt_of_lt_of_le (by decide) ok)
  unfold str nd
  rw [e0, e1, h]
  unfold pw ndj
  rw [h]
  rfl
theorem str_80 (h : c k = 80) (ok : ar (c k) ≤ (rt c k).length) : str c k = pw c k 1 ++ 46 :: pw c k 0 := by
  rw [h] at ok
  have e0 := fld_op (c := c) (k := k) (i := 0) (Nat.lt_of_lt_of_le (by decide) ok)
  have e1 := fld_op (c := c) (k := k) (i := 1) (Nat.lt_of_lt_of_le (by decide) ok)
  unfold str nd
  rw [e0, e1, h]
  unfold pw ndj
  rw [h]
  rfl
theorem str_96 (h : c k = 96) (ok : ar (c k) ≤ (rt c k).length) : str c k = pw c k 0 ++ [42] := by
  rw [h] at ok
  have e0 := fld_op (c := c) (k := k) (i := 0) (Nat.lt_of_lt_of_le (by decide) ok)
  unfold str nd
  rw [e0, h]
  unfold pw ndj
  rw [h]
  rfl
theorem str_112 (h : c k = 112) (ok : ar (c k) ≤ (rt c k).length) : str c k = 33 :: pw c k 0 := by
  rw [h] at ok
  have e0 := fld_op (c := c) (k := k) (i := 0) (Nat.lt_of_lt_of_le (by decide) ok)
  unfold str nd
  rw [e0, h]
  unfold pw ndj
  rw [h]
  rfl
theorem str_128 (h : c k = 128) (ok : ar (c k) ≤ (rt c k).length) : str c k = 91 :: (pw c k 2 ++ 63 :: (pw c k 1 ++ 124 :: (pw c k 0 ++ [93]))) := by
  rw [h] at ok
  have e0 := fld_op (c := c) (k := k) (i := 0) (Nat.lt_of_lt_of_le (by decide) ok)
  have e1 := fld_op (c := c) (k := k) (i := 1) (Nat.lt_of_lt_of_le (by decide) ok)
  have e2 := fld_op (c := c) (k := k) (i := 2) (Nat.lt_of_lt_of_le (by decide) ok)
  unfold str nd
  rw [e0, e1, e2, h]
  unfold pw ndj
  rw [h]
  rfl
def owK (K : Nat) : Nat := if K = 2 then 3 else if K = 3 then 3 else if K = 8 then 4 else 1
def smU (f : Nat → Nat) : Nat → Nat
  | 0 => 0
  | n + 1 => smU f n + f n
theorem str_len (hv : vcd (c k) = true) (ok : ar (c k) ≤ (rt c k).length) : (str c k).length = owK (c k / 16) + smU (fun i => (pw c k i).length) (ar (c k)) := by
  have hv2 := hv
  rcases vcd_cases hv with h | h | h | h | h | h
  · rw [str_lf h, show ar (c k) = 0 from if_pos h]
    unfold vcd at hv2
    simp only [Bool.or_eq_true, beq_iff_eq, Bool.and_eq_true, decide_eq_true_eq] at hv2
    by_cases h1 : c k < 32
    · rw [if_pos h1]
      have : c k / 16 = 0 ∨ c k / 16 = 1 := by omega
      rcases this with e | e <;> rw [e] <;> rfl
    · rw [if_neg h1]
      by_cases h2 : c k < 48
      · rw [if_pos h2, show c k / 16 = 2 by omega]; rfl
      · rw [if_neg h2, show c k / 16 = 3 by omega]; rfl
  · rw [str_64 h ok, h]
    simp only [List.length_append, List.length_cons]
    show _ = 1 + (0 + (pw c k 0).length + (pw c k 1).length)
    omega
  · rw [str_80 h ok, h]
    simp only [List.length_append, List.length_cons]
    show _ = 1 + (0 + (pw c k 0).length + (pw c k 1).length)
    omega
  · rw [str_96 h ok, h]
    simp only [List.length_append, List.length_cons, List.length_nil]
    show _ = 1 + (0 + (pw c k 0).length)
    omega
  · rw [str_112 h ok, h]
    simp only [List.length_cons]
    show _ = 1 + (0 + (pw c k 0).length)
    omega
  · rw [str_128 h ok, h]
    simp only [List.length_append, List.length_cons, List.length_nil]
    show _ = 4 + (0 + (pw c k 0).length + (pw c k 1).length + (pw c k 2).length)
    omega
theorem owK_le (K : Nat) : owK K ≤ 4 := by unfold owK; split <;> (try split) <;> (try split) <;> omega
end STR
/-! no text is too long -/
def smL (f : Nat → Nat) : List Nat → Nat
  | [] => 0
  | x :: t => f x + smL f t
theorem smL_drop (f : Nat → Nat) (g : Nat → Nat) : ∀ (a : Nat) (l : List Nat), a ≤ l.length → (∀ i (h : i < l.length), i < a → g i = f l[i]) → smL f l = smU g a + smL f (l.drop a) := by
  intro a
  induction a with
  | zero => intro l _ _; show _ = 0 + smL f l; omega
  | succ a ih =>
    intro l hl hg
    have e := ih l (by omega) (fun i h hi => hg i h (by omega))
    have ha : a < l.length := by omega
    rw [e, List.drop_eq_getElem_cons ha]
    show _ + (f l[a] + smL f (l.drop (a + 1))) = (smU g a + g a) + _
    rw [hg a ha (by omega)]
    omega
theorem smU_le {f g : Nat → Nat} : ∀ {n : Nat}, (∀ i, i < n → f i ≤ g i) → smU f n ≤ smU g n := by
  intro n
  induction n with
  | zero => intro _; exact Nat.le_refl _
  | succ n ih => intro h; have := ih (fun i hi => h i (by omega)); have := h n (by omega); show _ + _ ≤ _ + _; omega
theorem str_sum {c : Nat → Nat} {n : Nat} (ok : okc c n) (hv : ∀ k, vcd (c k) = true) : ∀ k, k ≤ n → smL (fun r => (str c r).length + 2) (rt c k) ≤ 6 * k := by
  intro k
  induction k with
  | zero => intro _; exact Nat.le_refl _
  | succ k ih =>
    intro hk
    have h1 := ih (by omega)
    have h2 := ok k (by omega)
    have h3 := str_len (hv k) h2
    have h4 := owK_le (c k / 16)
    have h5 := smL_drop (fun r => (str c r).length + 2) (fun i => (str c (opj c k i)).length + 2) (ar (c k)) (rt c k) h2 (fun i h hi => by rw [opj_eq h])
    have h6 : smU (fun i => (pw c k i).length) (ar (c k)) ≤ smU (fun i => (str c (opj c k i)).length + 2) (ar (c k)) := smU_le (fun i hi => by
      show (wrS _ _).length ≤ _
      rw [wrS_len]; split <;> omega)
    show (str c k).length + 2 + smL _ ((rt c k).drop (ar (c k))) ≤ _
    omega
theorem smL_mem (f : Nat → Nat) : ∀ (l : List Nat) (x : Nat), x ∈ l → f x ≤ smL f l := by
  intro l
  induction l with
  | nil => intro x h; cases h
  | cons y t ih =>
    intro x h
    rcases List.mem_cons.mp h with e | e
    · subst e; show f x ≤ f x + _; omega
    · have := ih x e; show f x ≤ f y + _; omega
/-- a policy's printed form -/
def prS (l : List Nat) : List Nat := str (cf l) (l.length - 1)
theorem prS_len {l : List Nat} (W : Wf l) : (prS l).length ≤ 358 := by
  have h := str_sum W.1 (cf_vcd W.2.2.2) l.length (Nat.le_refl _)
  have hp := W.pos
  have h60 := W.2.2.1
  have hm : l.length - 1 ∈ rt (cf l) l.length := by
    obtain ⟨m, hm⟩ : ∃ m, l.length = m + 1 := ⟨l.length - 1, by omega⟩
    rw [hm]
    exact List.mem_cons_self
  have := smL_mem (fun r => (str (cf l) r).length + 2) _ _ hm
  unfold prS
  omega
/-! the roots are apart; an operand is none any more -/
theorem rt_pw (c : Nat → Nat) : ∀ k, (rt c k).Pairwise (fun a b => b < a) := by
  intro k
  induction k with
  | zero => exact List.Pairwise.nil
  | succ k ih => exact List.Pairwise.cons (fun r hr => rt_lt c k r (List.mem_of_mem_drop hr)) (ih.sublist (List.drop_sublist _ _))
theorem rt_inj {c : Nat → Nat} {k i j : Nat} (hi : i < (rt c k).length) (hj : j < (rt c k).length) (e : (rt c k)[i] = (rt c k)[j]) : i = j := by
  have h := List.pairwise_iff_getElem.mp (rt_pw c k)
  rcases Nat.lt_trichotomy i j with x | x | x
  · have := h i j hi hj x; omega
  · exact x
  · have := h j i hj hi x; omega
theorem opj_out {c : Nat → Nat} {m i : Nat} (hi : i < ar (c m)) (ok : ar (c m) ≤ (rt c m).length) : ∀ k, m < k → opj c m i ∉ rt c k := by
  intro k
  have hlt : opj c m i < m := opj_lt (by omega)
  induction k with
  | zero => intro h; omega
  | succ k ih =>
    intro hk hm
    rcases List.mem_cons.mp hm with e | e
    · omega
    · by_cases c1 : m = k
      · subst c1
        obtain ⟨j, hj, e2⟩ := List.getElem_of_mem e
        rw [List.getElem_drop] at e2
        have hj2 : ar (c m) + j < (rt c m).length := by rw [List.length_drop] at hj; omega
        rw [opj_eq (show i < (rt c m).length by omega)] at e2
        have := rt_inj hj2 (show i < (rt c m).length by omega) e2
        omega
      · exact ih (by omega) (List.mem_of_mem_drop e)

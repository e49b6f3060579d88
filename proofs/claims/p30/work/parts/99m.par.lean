/-! THE LAW'S TEXTS: what they are parsed to -/
section PRN
variable {S : Nat → List Nat}
theorem prn_congr {tx ty : Nat → Nat} {n : Nat} (h : ∀ i, i < n → tx i = ty i) : ∀ (k : Nat) (q : PQy), k ≤ n → prn S tx n k q = prn S ty n k q := by
  intro k
  induction k with
  | zero => intro q _; rfl
  | succ k ih =>
    intro q hk
    show (match pst S (n - (k + 1)) (tx (n - (k + 1))) q with
      | Sum.inl e => Sum.inl e
      | Sum.inr q2 => prn S tx n k q2) = (match pst S (n - (k + 1)) (ty (n - (k + 1))) q with
      | Sum.inl e => Sum.inl e
      | Sum.inr q2 => prn S ty n k q2)
    rw [h (n - (k + 1)) (by omega)]
    cases pst S (n - (k + 1)) (ty (n - (k + 1))) q with
    | inl e => rfl
    | inr q2 => exact ih q2 (by omega)
theorem prn_st {tx : Nat → Nat} {n k : Nat} {q q2 : PQy} {R : Nat ⊕ List Nat} (h : pst S (n - (k + 1)) (tx (n - (k + 1))) q = Sum.inr q2) (t : prn S tx n k q2 = R) : prn S tx n (k + 1) q = R := by
  show (match pst S (n - (k + 1)) (tx (n - (k + 1))) q with
      | Sum.inl e => Sum.inl e
      | Sum.inr q2 => prn S tx n k q2) = R
  rw [h]; exact t
theorem prn_er {tx : Nat → Nat} {n k e : Nat} {q : PQy} (h : pst S (n - (k + 1)) (tx (n - (k + 1))) q = Sum.inl e) : prn S tx n (k + 1) q = Sum.inl e := by
  show (match pst S (n - (k + 1)) (tx (n - (k + 1))) q with
      | Sum.inl e => Sum.inl e
      | Sum.inr q2 => prn S tx n k q2) = _
  rw [h]
theorem pst_let {i a : Nat} {l : List Nat} {F : FrS} {x y : Nat} (ha : a < 4) : pst S i (112 + a) ((l, F), 0, x, y) = Sum.inr ((l ++ S a, F), 3, 0, 0) := by
  show stA S i (112 + a) (l, F) = _
  unfold stA
  rw [if_neg (by omega), if_neg (by omega), if_neg (by omega), if_neg (by omega), if_neg (by omega), if_pos (by omega), Nat.add_sub_cancel_left]
theorem prn_tst : ∀ f, f < 3 → ∀ o, o < 2 → ∀ v, v < 4 → prn S (fun i => ([120 + f, if o = 0 then 61 else 58, 48 + v] : List Nat).getD i 0) 3 3 q0 = Sum.inr [32 + 16 * o + 4 * f + v] := by
  intro f hf o ho v hv
  rcases (by omega : f = 0 ∨ f = 1 ∨ f = 2) with rfl | rfl | rfl <;> rcases (by omega : o = 0 ∨ o = 1) with rfl | rfl <;> rcases (by omega : v = 0 ∨ v = 1 ∨ v = 2 ∨ v = 3) with rfl | rfl | rfl | rfl <;> rfl
variable {a b c : Nat}
theorem prn_1 (ha : a < 4) (hb : b < 4) (hc : c < 4) : prn S (fun i => ([40, 112 + a, 46, 112 + b, 41, 42, 43, 112 + c] : List Nat).getD i 0) 8 8 q0 = Sum.inr ([] ++ S a ++ S b ++ [80] ++ [96] ++ S c ++ [64]) :=
  prn_st (q2 := (([], [(4, 0, 0)]), 0, 0, 0)) rfl (prn_st (q2 := (([] ++ S a, [(4, 0, 0)]), 3, 0, 0)) (pst_let (a := a) ha) (prn_st (q2 := (([] ++ S a, [(2, 2, 2), (4, 0, 0)]), 0, 0, 0)) rfl (prn_st (q2 := (([] ++ S a ++ S b, [(2, 2, 2), (4, 0, 0)]), 3, 0, 0)) (pst_let (a := b) hb) (prn_st (q2 := (([] ++ S a ++ S b ++ [80], []), 3, 0, 0)) rfl (prn_st (q2 := (([] ++ S a ++ S b ++ [80] ++ [96], []), 3, 0, 0)) rfl (prn_st (q2 := (([] ++ S a ++ S b ++ [80] ++ [96], [(1, 6, 6)]), 0, 0, 0)) rfl (prn_st (q2 := (([] ++ S a ++ S b ++ [80] ++ [96] ++ S c, [(1, 6, 6)]), 3, 0, 0)) (pst_let (a := c) hc) rfl)))))))
theorem prn_2 (ha : a < 4) (hb : b < 4) (hc : c < 4) : prn S (fun i => ([112 + a, 43, 112 + b, 46, 112 + c] : List Nat).getD i 0) 5 5 q0 = Sum.inr ([] ++ S a ++ S b ++ S c ++ [80] ++ [64]) :=
  prn_st (q2 := (([] ++ S a, []), 3, 0, 0)) (pst_let (a := a) ha) (prn_st (q2 := (([] ++ S a, [(1, 1, 1)]), 0, 0, 0)) rfl (prn_st (q2 := (([] ++ S a ++ S b, [(1, 1, 1)]), 3, 0, 0)) (pst_let (a := b) hb) (prn_st (q2 := (([] ++ S a ++ S b, [(2, 3, 3), (1, 1, 1)]), 0, 0, 0)) rfl (prn_st (q2 := (([] ++ S a ++ S b ++ S c, [(2, 3, 3), (1, 1, 1)]), 3, 0, 0)) (pst_let (a := c) hc) rfl))))
theorem pst_q {i : Nat} {l : List Nat} (h : topP l = true) : pst S i 63 ((l, [(5, 0, 0)]), 3, 0, 0) = Sum.inr ((l, [(6, i, 0)]), 0, 0, 0) := by
  show (match (if topP l = true then Sum.inr (l, [(5, 0, 0)]) else Sum.inl 1 : Nat ⊕ PSy) with
    | Sum.inl e => Sum.inl e
    | Sum.inr s4 => cBr i 63 s4) = _
  rw [if_pos h]
  rfl
theorem pst_qn {i : Nat} {l : List Nat} (h : ¬ topP l = true) : pst S i 63 ((l, [(5, 0, 0)]), 3, 0, 0) = Sum.inl 1 := by
  show (match (if topP l = true then Sum.inr (l, [(5, 0, 0)]) else Sum.inl 1 : Nat ⊕ PSy) with
    | Sum.inl e => Sum.inl e
    | Sum.inr s4 => cBr i 63 s4) = _
  rw [if_neg h]
theorem prn_3 (ha : a < 4) (hb : b < 4) (hc : c < 4) : prn S (fun i => ([91, 112 + a, 63, 112 + b, 124, 112 + c, 93] : List Nat).getD i 0) 7 7 q0 = Sum.inl 1 ∨ prn S (fun i => ([91, 112 + a, 63, 112 + b, 124, 112 + c, 93] : List Nat).getD i 0) 7 7 q0 = Sum.inr ([] ++ S a ++ S b ++ S c ++ [128]) := by
  by_cases h : topP ([] ++ S a) = true
  · exact Or.inr (prn_st (q2 := (([], [(5, 0, 0)]), 0, 0, 0)) rfl (prn_st (q2 := (([] ++ S a, [(5, 0, 0)]), 3, 0, 0)) (pst_let (a := a) ha) (prn_st (q2 := (([] ++ S a, [(6, 2, 0)]), 0, 0, 0)) (pst_q h) (prn_st (q2 := (([] ++ S a ++ S b, [(6, 2, 0)]), 3, 0, 0)) (pst_let (a := b) hb) (prn_st (q2 := (([] ++ S a ++ S b, [(7, 4, 0)]), 0, 0, 0)) rfl (prn_st (q2 := (([] ++ S a ++ S b ++ S c, [(7, 4, 0)]), 3, 0, 0)) (pst_let (a := c) hc) (prn_st (q2 := (([] ++ S a ++ S b ++ S c ++ [128], []), 3, 0, 0)) rfl rfl)))))))
  · exact Or.inl (prn_st (q2 := (([], [(5, 0, 0)]), 0, 0, 0)) rfl (prn_st (q2 := (([] ++ S a, [(5, 0, 0)]), 3, 0, 0)) (pst_let (a := a) ha) (prn_er (pst_qn h))))
end PRN

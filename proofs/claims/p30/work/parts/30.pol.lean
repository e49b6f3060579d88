/-! POLICIES as rows of codes (16 * kind + 4 * field + value), each node behind its operands -/
def ar (c : Nat) : Nat := if c < 64 then 0 else if c < 96 then 2 else if c < 128 then 1 else 3
theorem ar_le (c : Nat) : ar c ≤ 3 := by unfold ar; split <;> (try split) <;> (try split) <;> omega
/-- the operands that wait after k nodes: their last nodes, the newest first -/
def rt (c : Nat → Nat) : Nat → List Nat
  | 0 => []
  | k + 1 => k :: (rt c k).drop (ar (c k))
def nx : List Nat → Nat
  | [] => 0
  | r :: _ => r + 1
/-- where the part begins that is the node k with all below it -/
def bg (c : Nat → Nat) (k : Nat) : Nat := nx ((rt c k).drop (ar (c k)))
/-- behind j operands that end ahead of n -/
def upN (c : Nat → Nat) (n j : Nat) : Nat := nx ((rt c n).drop j)
theorem nx_rt (c : Nat → Nat) (k : Nat) : nx (rt c k) = k := by cases k <;> rfl
theorem rt_drop (c : Nat → Nat) : ∀ k j, (rt c k).drop j = rt c (nx ((rt c k).drop j)) := by
  intro k
  induction k with
  | zero => intro j; simp [rt, nx]
  | succ k ih =>
    intro j
    cases j with
    | zero => rfl
    | succ j =>
      show ((rt c k).drop (ar (c k))).drop j = rt c (nx (((rt c k).drop (ar (c k))).drop j))
      rw [List.drop_drop]
      exact ih _
theorem upN_0 (c : Nat → Nat) (n : Nat) : upN c n 0 = n := nx_rt c n
theorem upN_s0 {c : Nat → Nat} {n j : Nat} (h : upN c n j = 0) : upN c n (j + 1) = 0 := by
  unfold upN at *
  have e := rt_drop c n j
  rw [h] at e
  have : (rt c n).drop (j + 1) = [] := by rw [← List.drop_drop, e]; rfl
  rw [this]; rfl
theorem upN_s1 {c : Nat → Nat} {n j m : Nat} (h : upN c n j = m + 1) : upN c n (j + 1) = bg c m := by
  unfold upN at *
  have e := rt_drop c n j
  rw [h] at e
  have : (rt c n).drop (j + 1) = (rt c m).drop (ar (c m)) := by rw [← List.drop_drop, e]; rfl
  rw [this]; rfl
theorem rt_lt (c : Nat → Nat) : ∀ k, ∀ r ∈ rt c k, r < k := by
  intro k
  induction k with
  | zero => intro r h; cases h
  | succ k ih =>
    intro r h
    rcases List.mem_cons.mp h with h | h
    · omega
    · have := ih r (List.mem_of_mem_drop h); omega
theorem nx_le (c : Nat → Nat) (k j : Nat) : nx ((rt c k).drop j) ≤ k := by
  cases h : (rt c k).drop j with
  | nil => exact Nat.zero_le _
  | cons r t =>
    have : r ∈ (rt c k).drop j := by rw [h]; exact List.mem_cons_self
    have := rt_lt c k r (List.mem_of_mem_drop this)
    show r + 1 ≤ k
    omega
theorem upN_le (c : Nat → Nat) (n j : Nat) : upN c n j ≤ n := nx_le c n j
theorem bg_le (c : Nat → Nat) (k : Nat) : bg c k ≤ k := nx_le c k _
theorem rt_congr {c c' : Nat → Nat} : ∀ {k : Nat}, (∀ j, j < k → c j = c' j) → rt c k = rt c' k := by
  intro k
  induction k with
  | zero => intro _; rfl
  | succ k ih =>
    intro h
    show k :: _ = k :: _
    rw [ih (fun j hj => h j (by omega)), h k (by omega)]
theorem bg_congr {c c' : Nat → Nat} {k : Nat} (h : ∀ j, j ≤ k → c j = c' j) : bg c k = bg c' k := by
  unfold bg
  rw [rt_congr (fun j hj => h j (by omega)), h k (Nat.le_refl _)]
theorem rt_getD {c : Nat → Nat} {n i : Nat} (h : i < (rt c n).length) : upN c n i = (rt c n)[i] + 1 := by
  unfold upN
  rw [List.drop_eq_getElem_cons h]
  rfl
/-! folding over a row: each node's value out of its operands' (the last, the one ahead of it, the one ahead of that) -/
section FLD
variable {α : Type} (z : α) (op : Nat → α → α → α → α)
def fld (c : Nat → Nat) : Nat → List α
  | 0 => []
  | k + 1 => op (c k) ((fld c k).getD 0 z) ((fld c k).getD 1 z) ((fld c k).getD 2 z) :: (fld c k).drop (ar (c k))
def nd (c : Nat → Nat) (k : Nat) : α := op (c k) ((fld z op c k).getD 0 z) ((fld z op c k).getD 1 z) ((fld z op c k).getD 2 z)
theorem fld_rt (c : Nat → Nat) : ∀ k, fld z op c k = (rt c k).map (nd z op c) := by
  intro k
  induction k with
  | zero => rfl
  | succ k ih =>
    show nd z op c k :: (fld z op c k).drop (ar (c k)) = nd z op c k :: ((rt c k).drop (ar (c k))).map (nd z op c)
    rw [List.map_drop, ih]
theorem fld_len (c : Nat → Nat) (k : Nat) : (fld z op c k).length = (rt c k).length := by rw [fld_rt, List.length_map]
theorem fld_get {c : Nat → Nat} {n i : Nat} (h : i < (rt c n).length) : (fld z op c n).getD i z = nd z op c (upN c n i - 1) := by
  rw [fld_rt, rt_getD h, Nat.add_sub_cancel, List.getD_eq_getElem?_getD, List.getElem?_map, List.getElem?_eq_getElem h]
  rfl
theorem fld_congr {c c' : Nat → Nat} : ∀ {k : Nat}, (∀ j, j < k → c j = c' j) → fld z op c k = fld z op c' k := by
  intro k
  induction k with
  | zero => intro _; rfl
  | succ k ih =>
    intro h
    show _ :: _ = _ :: _
    rw [ih (fun j hj => h j (by omega)), h k (by omega)]
end FLD
/-- each node finds its operands -/
def okc (c : Nat → Nat) (n : Nat) : Prop := ∀ k, k < n → ar (c k) ≤ (rt c k).length
theorem okc.le {c : Nat → Nat} {m n : Nat} (h : okc c n) (hm : m ≤ n) : okc c m := fun k hk => h k (by omega)
theorem rt_len {c : Nat → Nat} {k : Nat} (h : ar (c k) ≤ (rt c k).length) : (rt c (k + 1)).length + ar (c k) = (rt c k).length + 1 := by
  show (k :: (rt c k).drop (ar (c k))).length + _ = _
  rw [List.length_cons, List.length_drop]; omega
theorem rt_len_le (c : Nat → Nat) : ∀ k, (rt c k).length ≤ k := by
  intro k
  induction k with
  | zero => exact Nat.le_refl _
  | succ k ih => show (k :: (rt c k).drop (ar (c k))).length ≤ _; rw [List.length_cons, List.length_drop]; omega
def cf (l : List Nat) : Nat → Nat := fun k => l.getD k 0
theorem cf_app_l {l m : List Nat} {k : Nat} (h : k < l.length) : cf (l ++ m) k = cf l k := by
  unfold cf; rw [List.getD_eq_getElem?_getD, List.getD_eq_getElem?_getD, List.getElem?_append_left h]
theorem cf_app_r {l m : List Nat} {k : Nat} : cf (l ++ m) (l.length + k) = cf m k := by
  unfold cf; rw [List.getD_eq_getElem?_getD, List.getD_eq_getElem?_getD, List.getElem?_append_right (by omega), Nat.add_sub_cancel_left]
theorem cf_snoc {l : List Nat} {x : Nat} : cf (l ++ [x]) l.length = x := by
  unfold cf; rw [List.getD_eq_getElem?_getD, List.getElem?_append_right (Nat.le_refl _)]; simp
theorem rt_app {l m : List Nat} : ∀ {j : Nat}, okc (cf m) j → rt (cf (l ++ m)) (l.length + j) = (rt (cf m) j).map (fun r => l.length + r) ++ rt (cf l) l.length := by
  intro j
  induction j with
  | zero =>
    intro _
    show rt (cf (l ++ m)) l.length = rt (cf l) l.length
    exact rt_congr (fun j hj => cf_app_l hj)
  | succ j ih =>
    intro h
    have hj := h j (by omega)
    show (l.length + j) :: (rt (cf (l ++ m)) (l.length + j)).drop (ar (cf (l ++ m) (l.length + j))) = ((j :: (rt (cf m) j).drop (ar (cf m j))).map (fun r => l.length + r)) ++ _
    rw [ih (h.le (by omega)), cf_app_r, List.drop_append_of_le_length (by rw [List.length_map]; exact hj), List.map_cons, List.map_drop]
    rfl
theorem bg_app {l m : List Nat} {j : Nat} (h : okc (cf m) (j + 1)) : bg (cf (l ++ m)) (l.length + j) = l.length + bg (cf m) j := by
  unfold bg
  rw [rt_app (h.le (by omega)), cf_app_r, List.drop_append_of_le_length (by rw [List.length_map]; exact h j (by omega)), ← List.map_drop]
  cases hd : (rt (cf m) j).drop (ar (cf m j)) with
  | nil => show nx (rt (cf l) l.length) = _; rw [nx_rt]; rfl
  | cons r t => show l.length + r + 1 = l.length + (r + 1); omega
theorem fld_app {α : Type} (z : α) (op : Nat → α → α → α → α) (hop : ∀ c a0 a1 a2 b0 b1 b2, (0 < ar c → a0 = b0) → (1 < ar c → a1 = b1) → (2 < ar c → a2 = b2) → op c a0 a1 a2 = op c b0 b1 b2) {l m : List Nat} : ∀ {j : Nat}, okc (cf m) j → fld z op (cf (l ++ m)) (l.length + j) = fld z op (cf m) j ++ fld z op (cf l) l.length := by
  intro j
  induction j with
  | zero =>
    intro _
    show fld z op (cf (l ++ m)) l.length = fld z op (cf l) l.length
    exact fld_congr z op (fun j hj => cf_app_l hj)
  | succ j ih =>
    intro h
    have hj : ar (cf m j) ≤ (fld z op (cf m) j).length := by rw [fld_len]; exact h j (by omega)
    show op (cf (l ++ m) (l.length + j)) _ _ _ :: (fld z op (cf (l ++ m)) (l.length + j)).drop (ar (cf (l ++ m) (l.length + j))) = (_ :: _) ++ _
    have g : ∀ i, i < (fld z op (cf m) j).length → (fld z op (cf (l ++ m)) (l.length + j)).getD i z = (fld z op (cf m) j).getD i z := fun i hi => by
      rw [ih (h.le (by omega)), List.getD_eq_getElem?_getD, List.getD_eq_getElem?_getD, List.getElem?_append_left hi]
    have e : (fld z op (cf (l ++ m)) (l.length + j)).drop (ar (cf (l ++ m) (l.length + j))) = (fld z op (cf m) j).drop (ar (cf m j)) ++ fld z op (cf l) l.length := by
      rw [ih (h.le (by omega)), cf_app_r, List.drop_append_of_le_length hj]
    rw [e, cf_app_r]
    refine congrArg (fun x => x :: ((fld z op (cf m) j).drop (ar (cf m j)) ++ fld z op (cf l) l.length)) ?_
    exact hop _ _ _ _ _ _ _ (fun h0 => g 0 (by omega)) (fun h1 => g 1 (by omega)) (fun h2 => g 2 (by omega))
/-- a policy: its nodes find their operands, and one is left; its codes are codes -/
def vcd (c : Nat) : Bool := c == 0 || c == 16 || (decide (32 ≤ c) && decide (c < 44)) || (decide (48 ≤ c) && decide (c < 60)) || c == 64 || c == 80 || c == 96 || c == 112 || c == 128
def Wf (l : List Nat) : Prop := okc (cf l) l.length ∧ (rt (cf l) l.length).length = 1 ∧ l.length ≤ 60 ∧ ∀ c ∈ l, vcd c = true
theorem vcd_lt {c : Nat} (h : vcd c = true) : c ≤ 128 := by
  unfold vcd at h
  simp only [Bool.or_eq_true, beq_iff_eq, Bool.and_eq_true, decide_eq_true_eq] at h
  omega
theorem cf_vcd {l : List Nat} (h : ∀ c ∈ l, vcd c = true) (k : Nat) : vcd (cf l k) = true := by
  unfold cf
  rw [List.getD_eq_getElem?_getD]
  cases hk : l[k]? with
  | none => rfl
  | some x => exact h x (List.mem_of_getElem? hk)
theorem Wf.pos {l : List Nat} (h : Wf l) : 1 ≤ l.length := by
  have h1 := h.2.1
  have := rt_len_le (cf l) l.length
  omega
/-- a node's operand, as it is looked for -/
theorem upN_op {c : Nat → Nat} {n k i : Nat} (h : okc c n) (hk : k < n) (hi : i < ar (c k)) : 1 ≤ upN c k i ∧ upN c k i ≤ k := by
  have := h k hk
  exact ⟨by rw [rt_getD (by omega)]; omega, upN_le c k i⟩

/-! THE CLASS'S POLICY -/
def bi (b : Bool) : Int32 := if b then 1 else 0
theorem bi_01 (b : Bool) : bi b = 0 ∨ bi b = 1 := by cases b <;> decide
def PolI (h : Hp) (p : Nat) (l : List Nat) (b : Bool) : Prop := gI h p 2 = nI l.length ∧ gI h p 3 = bi b ∧ ∀ k, k < l.length → k < 60 → gI h (p + 1) k = nI (cf l k) ∧ gI h (p + 2) k = nI (bg (cf l) k)
def pR (p : Nat) : Nat → Prop := fun a => p ≤ a ∧ a ≤ p + 2
theorem pR0 {p : Nat} : pR p p := ⟨Nat.le_refl _, by omega⟩
theorem pR1 {p : Nat} : pR p (p + 1) := ⟨by omega, by omega⟩
theorem pR2 {p : Nat} : pR p (p + 2) := ⟨by omega, by omega⟩
theorem PolI.fr {A : Nat → Prop} {h h1 : Hp} {p : Nat} {l : List Nat} {b : Bool} (x : PolI h p l b) (f : Fr A h h1) (n0 : ¬ A p) (n1 : ¬ A (p + 1)) (n2 : ¬ A (p + 2)) : PolI h1 p l b := by
  unfold PolI; rw [f.I n0, f.I n1, f.I n2]; exact x
section X4
variable {h : Hp} {p : Nat} {l : List Nat} {b : Bool}
theorem X4_nodeCount (L : Lay h) (hp : PA p) (P : PolI h p l b) : f_X4_nodeCount p h = some (nI l.length, h) := Tr.of_eq (Tr.ck (Lpo L hp) (Tr.ret ⟨P.1, rfl⟩))
theorem X4_givesPredicate (L : Lay h) (hp : PA p) (P : PolI h p l b) : f_X4_givesPredicate p h = some (bi b, h) :=
  Tr.of_eq (Tr.ck (Lpo L hp) (Tr.bz (by rw [P.2.1]; exact bi_01 b) (Tr.ret ⟨P.2.1, rfl⟩)))
theorem X4_nodeAt (L : Lay h) (hp : PA p) (P : PolI h p l b) {k : Nat} (hk : k < l.length) (h60 : k < 60) : f_X4_nodeAt p (nI k) h = some (nI (cf l k), h) := by
  apply Tr.of_eq
  refine Tr.neg (nI_pos (by omega)) ?_
  refine Tr.neg (nI_ge (b := 60) (by omega) (by decide)) ?_
  refine Tr.ck (Lpo L hp) (Tr.gp (Lp0 L hp) (Tr.ca (Lpa1 L hp h60) (Tr.ret ⟨?_, rfl⟩)))
  rw [nI_clamp (by omega)]
  exact (P.2.2 k hk h60).1
theorem X4_kindAt (L : Lay h) (hp : PA p) (P : PolI h p l b) {k : Nat} (hk : k < l.length) (h60 : k < 60) (hv : cf l k < 2 ^ 31) : f_X4_kindAt p (nI k) h = some (nI (cf l k / 16), h) := by
  apply Tr.of_eq
  refine Tr.ck (Lpo L hp) (Tr.be (X4_nodeAt L hp P hk h60) (Tr.ret ⟨?_, rfl⟩))
  exact pk_shrN hv _ 4 (by decide)
theorem X4_fieldAt (L : Lay h) (hp : PA p) (P : PolI h p l b) {k : Nat} (hk : k < l.length) (h60 : k < 60) (hv : cf l k < 2 ^ 31) : f_X4_fieldAt p (nI k) h = some (nI (cf l k / 4 % 4), h) := by
  apply Tr.of_eq
  refine Tr.ck (Lpo L hp) (Tr.be (X4_nodeAt L hp P hk h60) (Tr.ret ⟨?_, rfl⟩))
  rw [pk_shrN hv _ 2 (by decide)]
  exact pk_andN (by omega) 2 (by decide)
theorem X4_valueAt (L : Lay h) (hp : PA p) (P : PolI h p l b) {k : Nat} (hk : k < l.length) (h60 : k < 60) (hv : cf l k < 2 ^ 31) : f_X4_valueAt p (nI k) h = some (nI (cf l k % 4), h) := by
  apply Tr.of_eq
  refine Tr.ck (Lpo L hp) (Tr.be (X4_nodeAt L hp P hk h60) (Tr.ret ⟨?_, rfl⟩))
  exact pk_andN (by omega) 2 (by decide)
theorem X4_op38 {m : Nat} (hm : m ≤ 60) (h : Hp) : f_X4_operandAt_38 (nI m - 1) h = some (nI (m - 1), h) := by
  apply Tr.of_eq
  cases m with
  | zero => exact Tr.pos (by decide) (Tr.ret ⟨rfl, rfl⟩)
  | succ m =>
    rw [nI_pred]
    exact Tr.neg (nI_pos (by omega)) (Tr.neg (nI_ge (b := 60) (by omega) (by decide)) (Tr.ret ⟨rfl, rfl⟩))
theorem upN_z {c : Nat → Nat} {n j : Nat} (h : upN c n j = 0) : ∀ d, upN c n (j + d) = 0 := by
  intro d
  induction d with
  | zero => exact h
  | succ d ih => exact upN_s0 ih
theorem X4_operandAt (L : Lay h) (hp : PA p) (P : PolI h p l b) {k j : Nat} (hk : k ≤ l.length) (h60 : k ≤ 60) (hj : j ≤ 3) : f_X4_operandAt p (nI k) (nI j) h = some (nI (upN (cf l) k j - 1), h) := by
  apply Tr.of_eq
  refine Tr.nmx ?_
  refine Tr.up (N := j) (J := fun i s => s = (nI (upN (cf l) k i) - 1, nI i)) ?_ ?_ (p := 0) (by rw [upN_0]; rfl) (Nat.zero_le _) (by omega)
  · intro i s kk hi hJ hk'
    subst hJ
    refine Tr.neg (nI_ge hi (by omega)) ?_
    have hle := upN_le (cf l) k i
    cases hm : upN (cf l) k i with
    | zero =>
      refine Tr.pos (show (nI 0 - 1 : Int32) < 0 by decide) ?_
      refine Tr.eq (X4_op38 (m := 0) (by omega) h) ⟨?_, rfl⟩
      have := upN_z hm (j - i)
      rw [show i + (j - i) = j by omega] at this
      rw [this]
    | succ m =>
      show Tr (if nI (m + 1) - 1 < 0 then _ else _) _
      rw [nI_pred]
      refine Tr.neg (nI_pos (by omega)) ?_
      refine Tr.neg (nI_ge (b := 60) (by omega) (by decide)) ?_
      refine Tr.ck (Lpo L hp) (Tr.gp (Lp1 L hp) (Tr.ca (Lpa2 L hp (by omega)) ?_))
      rw [nI_clamp (by omega), (P.2.2 m (by omega) (by omega)).2]
      refine Tr.nmx (Tr.nmx (hk' _ ?_))
      rw [upN_s1 hm]
      show (nI (bg (cf l) m) - 1, nI i + 1) = _
      rw [nI_1]
  · intro s kk hJ
    subst hJ
    refine Tr.pos (nI_le (Nat.le_refl _) (by omega)) ?_
    exact Tr.eq (X4_op38 (Nat.le_trans (upN_le _ _ _) h60) h) ⟨rfl, rfl⟩
theorem X4_start (L : Lay h) (hp : PA p) : Tr (f_X4_start p h) (fun _ h' => PolI h' p [] false ∧ Fr (pR p) h h') := by
  refine Tr.ck (Lpo L hp) (Tr.ret ⟨⟨?_, ?_, fun k hk => absurd hk (Nat.not_lt_zero _)⟩, (Fr.sI pR0).tr (Fr.sI pR0)⟩)
  · rw [gI_sI, gI_sI, upd_ne (by decide), upd_eq]; rfl
  · rw [gI_sI, upd_eq]; rfl
theorem X4_mark (L : Lay h) (hp : PA p) (P : PolI h p l b) (b2 : Bool) : Tr (f_X4_markPredicate p (bi b2) h) (fun _ h' => PolI h' p l b2 ∧ Fr (pR p) h h') := by
  refine Tr.bz (bi_01 b2) (Tr.ck (Lpo L hp) (Tr.ret ⟨⟨?_, ?_, ?_⟩, Fr.sI pR0⟩))
  · rw [gI_sI, upd_ne (by decide)]; exact P.1
  · rw [gI_sI, upd_eq]
  · rw [gI_sI_ne (by omega), gI_sI_ne (by omega)]; exact P.2.2
/-- one node more, at its place -/
theorem PolI.snoc {h1 : Hp} {x : Nat} (P : PolI h p l b) (hl : l.length < 60) (e0 : gI h1 p 2 = nI (l.length + 1)) (e3 : gI h1 p 3 = gI h p 3) (e1 : gI h1 (p + 1) = va_up (gI h (p + 1)) l.length (nI x)) (e2 : gI h1 (p + 2) = va_up (gI h (p + 2)) l.length (nI (upN (cf l) l.length (ar x)))) : PolI h1 p (l ++ [x]) b := by
  refine ⟨by rw [e0, List.length_append]; rfl, by rw [e3]; exact P.2.1, fun k hk h60 => ?_⟩
  rw [List.length_append, List.length_singleton] at hk
  rw [e1, e2]
  by_cases hkl : k = l.length
  · subst hkl
    rw [upd_eq, upd_eq, cf_snoc]
    refine ⟨rfl, ?_⟩
    unfold bg upN
    rw [cf_snoc, rt_congr (c := cf (l ++ [x])) (c' := cf l) (fun j hj => cf_app_l hj)]
  · rw [upd_ne hkl, upd_ne hkl, cf_app_l (by omega), bg_congr (c := cf (l ++ [x])) (c' := cf l) (fun j hj => cf_app_l (by omega))]
    exact P.2.2 k (by omega) h60
theorem PolI.snocBig {h1 : Hp} {x : Nat} (P : PolI h p l b) (hl : 60 ≤ l.length) (e0 : gI h1 p 2 = nI (l.length + 1)) (e3 : gI h1 p 3 = gI h p 3) (e1 : gI h1 (p + 1) = gI h (p + 1)) (e2 : gI h1 (p + 2) = gI h (p + 2)) : PolI h1 p (l ++ [x]) b := by
  refine ⟨by rw [e0, List.length_append]; rfl, by rw [e3]; exact P.2.1, fun k hk h60 => ?_⟩
  rw [e1, e2, cf_app_l (by omega), bg_congr (c := cf (l ++ [x])) (c' := cf l) (fun j hj => cf_app_l (by omega))]
  exact P.2.2 k (by omega) h60
theorem X4_operandsOf : ∀ kd, kd < 9 → ∀ f, f < 4 → ∀ v, v < 4 → ∀ h, f_X4_operandsOf (nI kd) h = some (nI (ar (16 * kd + 4 * f + v)), h) := by
  intro kd hk f hf v hv h
  have e : ∀ kd, kd < 9 → (if nI kd = (4 : Int32) then (2 : Int32) else if nI kd = (5 : Int32) then 2 else if nI kd = (6 : Int32) then 1 else if nI kd = (7 : Int32) then 1 else if nI kd = (8 : Int32) then 3 else 0) = nI (ar (16 * kd)) := by decide +kernel
  have e2 : ar (16 * kd + 4 * f + v) = ar (16 * kd) := by
    unfold ar
    have a1 : (16 * kd + 4 * f + v < 64) ↔ (16 * kd < 64) := by omega
    have a2 : (16 * kd + 4 * f + v < 96) ↔ (16 * kd < 96) := by omega
    have a3 : (16 * kd + 4 * f + v < 128) ↔ (16 * kd < 128) := by omega
    simp only [a1, a2, a3]
  rw [e2, ← e kd hk]
  unfold f_X4_operandsOf
  split
  · rfl
  · split
    · rfl
    · split
      · rfl
      · split
        · rfl
        · split <;> rfl
theorem code_bits : ∀ kd, kd < 9 → ∀ f, f < 4 → ∀ v, v < 4 → ((nI kd <<< ((4 : Int32) &&& 31)) ||| (nI f <<< ((2 : Int32) &&& 31))) ||| nI v = nI (16 * kd + 4 * f + v) := by decide +kernel
theorem X4_add53 (L : Lay h) (hp : PA p) (P : PolI h p l b) (hl : l.length < 60) {kd f v : Nat} (hk : kd < 9) (hf : f < 4) (hv : v < 4) : Tr (f_X4_add_60 p (nI kd) (nI f) (nI v) (nI (upN (cf l) l.length (ar (16 * kd + 4 * f + v)))) h) (fun _ h' => PolI h' p (l ++ [16 * kd + 4 * f + v]) b ∧ Fr (pR p) h h') := by
  refine Tr.ck (Lpo L hp) (Tr.gp (Lp0 L hp) ?_)
  rw [P.1, code_bits kd hk f hf v hv, nI_clamp (by omega)]
  refine Tr.ca (Lpa1 L hp hl) (Tr.gp (Lp1 L hp) ?_)
  rw [gI_sI_ne (by omega), P.1, nI_clamp (by omega)]
  refine Tr.ca (Lpa2 (L.sI) hp hl) (Tr.nm (fun h1 e1 => Tr.ret ?_))
  subst e1
  refine ⟨P.snoc hl ?_ ?_ ?_ ?_, ((Fr.sI pR1).tr (Fr.sI pR2)).tr (Fr.sI pR0)⟩
  · rw [gI_sI, upd_eq, gI_sI_ne (by omega), gI_sI_ne (by omega), P.1, nI_1]
  · rw [gI_sI, upd_ne (by decide), gI_sI_ne (by omega), gI_sI_ne (by omega)]
  · rw [gI_sI_ne (by omega), gI_sI_ne (by omega), gI_sI]
  · rw [gI_sI_ne (by omega), gI_sI, gI_sI_ne (by omega)]
theorem X4_add (L : Lay h) (hp : PA p) (P : PolI h p l b) (hl : l.length < 2 ^ 30) {kd f v : Nat} (hk : kd < 9) (hf : f < 4) (hv : v < 4) : Tr (f_X4_add p (nI kd) (nI f) (nI v) h) (fun _ h' => PolI h' p (l ++ [16 * kd + 4 * f + v]) b ∧ Fr (pR p) h h') := by
  refine Tr.ck (Lpo L hp) ?_
  rw [P.1]
  rcases Nat.lt_or_ge l.length 60 with h60 | h60
  · refine Tr.neg (nI_ge (b := 60) h60 (by decide)) ?_
    refine Tr.be (X4_operandsOf kd hk f hf v hv h) ?_
    refine Tr.ck (Lpo L hp) (Tr.nmx ?_)
    rw [P.1]
    have hB := X4_add53 L hp P h60 hk hf hv
    generalize 16 * kd + 4 * f + v = x at hB ⊢
    have har := ar_le x
    refine Tr.up (N := ar x) (J := fun i s => s = (nI (upN (cf l) l.length i), nI i)) ?_ ?_ (p := 0) (by rw [upN_0]; rfl) (Nat.zero_le _) (by omega)
    · intro i s kk hi hJ hk'
      subst hJ
      refine Tr.neg (nI_ge hi (by omega)) ?_
      have hle := upN_le (cf l) l.length i
      cases hm : upN (cf l) l.length i with
      | zero =>
        refine Tr.pos (show nI 0 ≤ (0 : Int32) by decide) ?_
        have := upN_z hm (ar x - i)
        rw [show i + (ar x - i) = ar x by omega] at this
        rw [this] at hB
        exact hB
      | succ m =>
        refine Tr.neg (nI_nle (by omega) (by omega)) ?_
        refine Tr.neg (nI_nlt (a := 60) (b := m + 1) (by omega) (by omega)) ?_
        show Tr (ck h p 4 _) _
        refine Tr.ck (Lpo L hp) (Tr.gp (Lp1 L hp) ?_)
        show Tr (ca h (p + 2) 20 (nI (m + 1) - 1) (nm (gI h (p + 2) (nI (m + 1) - 1).toNatClampNeg) _)) _
        rw [nI_pred, nI_clamp (by omega), (P.2.2 m (by omega) (by omega)).2]
        refine Tr.ca (Lpa2 L hp (by omega)) (Tr.nmx (Tr.nmx (hk' _ ?_)))
        rw [upN_s1 hm]
        show (nI (bg (cf l) m), nI i + 1) = _
        rw [nI_1]
    · intro s kk hJ
      subst hJ
      exact Tr.pos (nI_le (Nat.le_refl _) (by omega)) hB
  · refine Tr.pos (nI_le (b := l.length) (a := 60) h60 (by omega)) (Tr.ret ⟨P.snocBig h60 ?_ ?_ ?_ ?_, Fr.sI pR0⟩)
    · rw [gI_sI, upd_eq, nI_1]
    · rw [gI_sI, upd_ne (by decide)]
    · rw [gI_sI_ne (by omega)]
    · rw [gI_sI_ne (by omega)]
end X4

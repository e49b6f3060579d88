/-! THE CLASS'S QUERIES ON DIAGRAMS AND TABLES -/
def ix (n : Nat) (x : Int32) : Option Nat := if x < 0 then none else if nI n ≤ x then none else some x.toNatClampNeg
theorem ix_cases (n : Nat) (hn : n < 2 ^ 31) (x : Int32) : (ix n x = none ∧ (x < 0 ∨ nI n ≤ x)) ∨ ∃ s, s < n ∧ x = nI s ∧ ix n x = some s := by
  rcases pk_ix x (n := n) hn with c | c | ⟨s, hs, rfl⟩
  · exact Or.inl ⟨if_pos c, Or.inl c⟩
  · refine Or.inl ⟨?_, Or.inr c⟩
    unfold ix
    by_cases c2 : x < 0
    · rw [if_pos c2]
    · rw [if_neg c2, if_pos c]
  · refine Or.inr ⟨s, hs, rfl, ?_⟩
    unfold ix
    rw [if_neg (nI_pos (by omega)), if_neg (nI_ge (b := n) hs hn), nI_clamp (by omega)]
noncomputable def lD (l : List Nat) : List (Int64 × Int64) := dL (evI l) []
noncomputable def tR (l : List Nat) : List (Int32 × Nat) := tbR (lD l) (cT (evI l)) (cR (evI l))
noncomputable def tN (l : List Nat) : Nat := tbN (lD l) (cT (evI l)) (cR (evI l))
theorem tN_le (l : List Nat) : tN l ≤ (tR l).length := tbN_le _ _ _
theorem tR_len (l : List Nat) : (tR l).length ≤ 64 := tbR_len _ _ _
def hitsN (RL : List (Int32 × Nat)) (n : Nat) (r : Int32) : Nat := fb_ct (fun p => decide (hitN RL n p = r)) 64
theorem gD_get {α : Type} (L : List α) (d : α) {i : Nat} (h : i < L.length) : L[i]? = some (L.getD i d) := by
  rw [List.getElem?_eq_getElem h]; unfold List.getD; rw [List.getElem?_eq_getElem h]; rfl
theorem gD_mem {α : Type} (L : List α) (d : α) {i : Nat} (h : i < L.length) : L.getD i d ∈ L := List.mem_iff_getElem?.mpr ⟨i, gD_get L d h⟩
section CLT
variable {h : Hp} {G : St}
noncomputable def aDSize (G : St) (x : Int32) : Int32 × St := oneQ G x (-2) (fun l => nI (cO (evI l) + (cT (evI l)).length))
noncomputable def aLeaves (G : St) (x : Int32) : Int32 × St := oneQ G x (-2) (fun l => nI (cO (evI l)))
noncomputable def aDepth (G : St) (x : Int32) : Int32 × St := oneQ G x (-2) (fun l => nI (dpi (cO (evI l)) (dps (cO (evI l)) (cT (evI l))) (cR (evI l))))
noncomputable def aRows (G : St) (x : Int32) : Int32 × St := oneQ G x (-2) (fun l => nI (tN l))
noncomputable def aMatch (G : St) (x r f : Int32) : Int32 × St := match sl x with
  | none => (-2, failS G 0)
  | some s => match ix 3 f with
    | none => (-2, failS G 0)
    | some f => match ix (tN (G.2.2.1 s)) r with
      | none => (-2, failS G 0)
      | some k => (eF ((tR (G.2.2.1 s)).getD k (0, 0)).1 f, G)
noncomputable def actN (l : List Nat) (k : Nat) (i : Int32) : Int32 := if i = -1 then nI (tot ((lD l).getD ((tR l).getD k (0, 0)).2 (0, 0))) else aaN ((lD l).getD ((tR l).getD k (0, 0)).2 (0, 0)) i
noncomputable def aAction (G : St) (x r i : Int32) : Int32 × St := match sl x with
  | none => (-2, failS G 0)
  | some s => if (-1 : Int32) ≤ i then (match ix (tN (G.2.2.1 s)) r with
      | none => (-2, failS G 0)
      | some k => (actN (G.2.2.1 s) k i, G)) else (-2, failS G 0)
noncomputable def aHit (G : St) (x y : Int32) : Int32 × St := match sl x with
  | none => (-2, failS G 0)
  | some s => match pk y with
    | none => (-2, failS G 0)
    | some p => (hitN (tR (G.2.2.1 s)) (tN (G.2.2.1 s)) p, G)
noncomputable def aHits (G : St) (x r : Int32) : Int32 × St := match sl x with
  | none => (-2, failS G 0)
  | some s => match ix (tN (G.2.2.1 s)) r with
    | none => (-2, failS G 0)
    | some _ => (nI (hitsN (tR (G.2.2.1 s)) (tN (G.2.2.1 s)) r), G)
def aErr (G : St) (c : Int32) : Int32 × St := if c < -6 then (-2, failS G 0) else if c ≤ -2 then (G.2.2.2.1 ((-2 : Int32) - c).toNatClampNeg, G) else (-2, failS G 0)
theorem X9_diagramSize (C : CI h G) (x : Int32) : Tr (f_X9_diagramSize 1 x h) (CP h (aDSize G x)) := by
  unfold aDSize oneQ
  refine X9_os x (fun e => ?_) (fun s hs e e2 => ?_)
  · rw [e]; exact X9_fl C (by decide) (by decide)
  · rw [e2, e]
    refine X9_up C hs (fun h2 C2 D2 F2 => ?_)
    have L2 := C2.1
    exact Tr.ck (Lso_35 L2 hs) (Tr.be (X7_diagram L2 hs) (Tr.ck (Lso_46 L2 hs) (Tr.be (Tr.of_eq (Tr.ck (Lso_46 L2 hs) (Tr.ret ⟨D2.2.2.2.1.2.1.1, rfl⟩))) (Tr.ret ⟨rfl, C2, F2.wk (upR_cA hs)⟩))))
theorem X9_leaves (C : CI h G) (x : Int32) : Tr (f_X9_leaves 1 x h) (CP h (aLeaves G x)) := by
  unfold aLeaves oneQ
  refine X9_os x (fun e => ?_) (fun s hs e e2 => ?_)
  · rw [e]; exact X9_fl C (by decide) (by decide)
  · rw [e2, e]
    refine X9_up C hs (fun h2 C2 D2 F2 => ?_)
    have L2 := C2.1
    exact Tr.ck (Lso_35 L2 hs) (Tr.be (X7_diagram L2 hs) (Tr.ck (Lso_46 L2 hs) (Tr.be (Tr.of_eq (Tr.ck (Lso_46 L2 hs) (Tr.ret ⟨D2.2.2.2.1.1.1, rfl⟩))) (Tr.ret ⟨rfl, C2, F2.wk (upR_cA hs)⟩))))
theorem dg_depth (L : Lay h) {s : Nat} (hs : s < 4) {D : List (Int64 × Int64)} {T : List TE} {r i : Nat} (K : DgOK h s D T r) (hi : i < D.length + T.length) : gI h (50 + 22 * s) i = nI (dpi D.length (dps D.length T) i) := by
  unfold dpi
  by_cases c : i < D.length
  · rw [if_pos c]; exact K.1.2.2 i c
  · rw [if_neg c]
    have h3 := (K.2.1.2 (i - D.length) (T[i - D.length]'(by omega)) (List.getElem?_eq_getElem (by omega))).2.2
    rwa [show D.length + (i - D.length) = i by omega] at h3
theorem X9_diagramDepth (C : CI h G) (x : Int32) : Tr (f_X9_diagramDepth 1 x h) (CP h (aDepth G x)) := by
  unfold aDepth oneQ
  refine X9_os x (fun e => ?_) (fun s hs e e2 => ?_)
  · rw [e]; exact X9_fl C (by decide) (by decide)
  · rw [e2, e]
    refine X9_up C hs (fun h2 C2 D2 F2 => ?_)
    have L2 := C2.1
    have K := D2.2.2.2.1
    obtain ⟨k1, k2, k3, k4, k5, k6, k7⟩ := id K
    refine Tr.ck (Lso_35 L2 hs) (Tr.be (X7_diagram L2 hs) (Tr.ck (Lso_46 L2 hs) (Tr.be (Tr.of_eq (Tr.ck (Lso_46 L2 hs) ?_)) (Tr.ret ⟨rfl, C2, F2.wk (upR_cA hs)⟩))))
    rw [k4]
    refine Tr.be (X0_depthOf L2 hs (by omega)) (Tr.ret ⟨dg_depth L2 hs K k5, rfl⟩)
theorem X9_rows (C : CI h G) (x : Int32) : Tr (f_X9_rows 1 x h) (CP h (aRows G x)) := by
  unfold aRows oneQ
  refine X9_os x (fun e => ?_) (fun s hs e e2 => ?_)
  · rw [e]; exact X9_fl C (by decide) (by decide)
  · rw [e2, e]
    refine X9_up C hs (fun h2 C2 D2 F2 => ?_)
    have L2 := C2.1
    exact Tr.ck (Lso_35 L2 hs) (Tr.be (X7_table L2 hs) (Tr.ck (Lso_54 L2 hs) (Tr.be (X8_rowTotal L2 hs D2.2.2.2.2) (Tr.ret ⟨rfl, C2, F2.wk (upR_cA hs)⟩))))
/-- whether there is a row -/
theorem X8_hr {α : Type} {Q : α → Hp → Prop} {A B : Hp → Option (α × Hp)} {RL : List (Int32 × Nat)} {n s : Nat} (L : Lay h) (hs : s < 4) (B0 : TbR h s RL n) (hn : n < 2 ^ 31) (x : Int32) (hA : ix n x = none → Tr (A h) Q) (hB : ∀ k, k < n → x = nI k → ix n x = some k → Tr (B h) Q) : Tr (bd (f_X8_hasRow (54 + 22 * s) x h) fun v h2 => if v = 0 then A h2 else B h2) Q := by
  have e := X8_hasRow L hs B0 x
  rcases ix_cases n hn x with ⟨e1, c⟩ | ⟨k, hk, e1, e2⟩
  · have e0 : (if x < 0 then (0 : Int32) else if nI n ≤ x then 0 else 1) = 0 := by
      by_cases c2 : x < 0
      · rw [if_pos c2]
      · rw [if_neg c2, if_pos (c.resolve_left c2)]
    rw [e0] at e
    exact Tr.be e (Tr.pos rfl (hA e1))
  · have e0 : (if x < 0 then (0 : Int32) else if nI n ≤ x then 0 else 1) = 1 := by
      rw [e1, if_neg (nI_pos (by omega)), if_neg (nI_ge (b := n) hk hn)]
    rw [e0] at e
    exact Tr.be e (Tr.neg (by decide) (hB k hk e1 e2))
theorem X9_match (C : CI h G) (x r f : Int32) : Tr (f_X9_match 1 x r f h) (CP h (aMatch G x r f)) := by
  unfold aMatch
  refine X9_os x (fun e => ?_) (fun s hs e e2 => ?_)
  · rw [e]; exact X9_fl C (by decide) (by decide)
  · rw [e2, e]
    dsimp only
    rcases ix_cases 3 (by decide) f with ⟨e3, c⟩ | ⟨k, hk, e3, e4⟩
    · rw [e3]
      by_cases c2 : f < 0
      · exact Tr.pos c2 (X9_fl C (by decide) (by decide))
      · have c3 : ¬ f < (3 : Int32) := by
          have := c.resolve_left c2
          rw [Int32.le_iff_toInt_le] at this
          rw [Int32.lt_iff_toInt_lt]
          have z : (nI 3).toInt = (3 : Int32).toInt := rfl
          omega
        exact Tr.neg c2 (Tr.neg c3 (X9_fl C (by decide) (by decide)))
    · rw [e4, e3]
      dsimp only
      refine Tr.neg (nI_pos (by omega)) (Tr.pos (nI_lt (b := 3) hk (by decide)) (X9_up C hs (fun h2 C2 D2 F2 => ?_)))
      have L2 := C2.1
      have n1 := tN_le (G.2.2.1 s)
      have n2 := tR_len (G.2.2.1 s)
      have B2 : TbR h2 s (tR (G.2.2.1 s)) (tN (G.2.2.1 s)) := D2.2.2.2.2
      refine Tr.ck (Lso_35 L2 hs) (Tr.be (X7_table L2 hs) (Tr.ck (Lso_54 L2 hs) (X8_hr L2 hs B2 (by omega) r (fun e5 => ?_) (fun j hj e5 e6 => ?_))))
      · rw [e5]
        refine Tr.imp (X9_fl C2 (e := 0) (f := fun v => v) (by decide) (by decide)) (fun v h3 q => ⟨q.1, q.2.1, (F2.wk (upR_cA hs)).tr q.2.2⟩)
      · rw [e6, e5]
        exact Tr.ck (Lso_54 L2 hs) (Tr.be (X8_demandsOf L2 hs B2 (by omega) n2) (Tr.be (X9_entryOf _ hk h2) (Tr.ret ⟨rfl, C2, F2.wk (upR_cA hs)⟩)))
theorem X9_action (C : CI h G) (x r i : Int32) : Tr (f_X9_action 1 x r i h) (CP h (aAction G x r i)) := by
  unfold aAction
  refine X9_os x (fun e => ?_) (fun s hs e e2 => ?_)
  · rw [e]; exact X9_fl C (by decide) (by decide)
  · rw [e2, e]
    dsimp only
    by_cases h1 : (-1 : Int32) ≤ i
    · rw [show ∀ a b : Int32 × St, (if (-1 : Int32) ≤ i then a else b) = a from fun a b => if_pos h1]
      refine Tr.pos h1 (X9_up C hs (fun h2 C2 D2 F2 => ?_))
      have L2 := C2.1
      have n1 := tN_le (G.2.2.1 s)
      have n2 := tR_len (G.2.2.1 s)
      have B2 : TbR h2 s (tR (G.2.2.1 s)) (tN (G.2.2.1 s)) := D2.2.2.2.2
      refine Tr.ck (Lso_35 L2 hs) (Tr.be (X7_table L2 hs) (Tr.ck (Lso_54 L2 hs) (X8_hr L2 hs B2 (by omega) r (fun e5 => ?_) (fun j hj e5 e6 => ?_))))
      · rw [e5]
        refine Tr.imp (X9_fl C2 (e := 0) (f := fun v => v) (by decide) (by decide)) (fun v h3 q => ⟨q.1, q.2.1, (F2.wk (upR_cA hs)).tr q.2.2⟩)
      · rw [e6, e5]
        dsimp only
        have K := D2.2.2.2.1
        have hlt : ((tR (G.2.2.1 s)).getD j (0, 0)).2 < (lD (G.2.2.1 s)).length := by
          have hm : (tR (G.2.2.1 s)).getD j (0, 0) ∈ tR (G.2.2.1 s) := gD_mem _ _ (by omega)
          exact vis_leaf _ _ _ _ _ _ hm
        have hx : (lD (G.2.2.1 s))[((tR (G.2.2.1 s)).getD j (0, 0)).2]? = some ((lD (G.2.2.1 s)).getD ((tR (G.2.2.1 s)).getD j (0, 0)).2 (0, 0)) := gD_get _ _ hlt
        refine Tr.ck (Lo_1 L2) (Tr.gp (Lp_1_2 L2) (Tr.ca (La_3 L2 hs) ?_))
        rw [nI_clamp (by omega)]
        refine Tr.gp (Lp_3 L2 hs) (Tr.ck (Lso_35 L2 hs) (Tr.be (X7_diagram L2 hs) (Tr.ck (Lso_54 L2 hs) (Tr.be (X8_leafOf L2 hs B2 (k := j) (by omega) n2) ?_))))
        unfold actN
        by_cases h3 : i = -1
        · rw [show ∀ a b : Int32, (if i = -1 then a else b) = a from fun a b => if_pos h3]
          exact Tr.pos h3 (Tr.ck (Lso_46 L2 hs) (Tr.be (X0_actionTotal L2 hs K hx) (Tr.ret ⟨rfl, C2, F2.wk (upR_cA hs)⟩)))
        · rw [show ∀ a b : Int32, (if i = -1 then a else b) = b from fun a b => if_neg h3]
          refine Tr.neg h3 (Tr.ck (Lso_46 L2 hs) (Tr.be (X0_actionAt L2 hs K hx) ?_))
          generalize aaN _ i = w
          exact (Tr.ret ⟨rfl, C2, F2.wk (upR_cA hs)⟩)
    · rw [show ∀ a b : Int32 × St, (if (-1 : Int32) ≤ i then a else b) = b from fun a b => if_neg h1]
      exact Tr.neg h1 (X9_fl C (by decide) (by decide))
theorem X9_hit (C : CI h G) (x y : Int32) : Tr (f_X9_hit 1 x y h) (CP h (aHit G x y)) := by
  unfold aHit
  refine X9_os x (fun e => ?_) (fun s hs e e2 => ?_)
  · rw [e]; exact X9_fl C (by decide) (by decide)
  · rw [e2, e]
    refine X9_op y (fun e3 => ?_) (fun p hp e3 e4 => ?_)
    · rw [e3]; exact X9_fl C (by decide) (by decide)
    · rw [e4, e3]
      refine X9_up C hs (fun h2 C2 D2 F2 => ?_)
      have L2 := C2.1
      have n1 := tN_le (G.2.2.1 s)
      have n2 := tR_len (G.2.2.1 s)
      have B2 : TbR h2 s (tR (G.2.2.1 s)) (tN (G.2.2.1 s)) := D2.2.2.2.2
      refine Tr.ck (Lso_35 L2 hs) (Tr.be (X7_table L2 hs) (Tr.ck (Lso_54 L2 hs) (Tr.be (X8_firstRowFor L2 hs B2 n1 n2 hp) ?_)))
      show Tr _ (CP h (hitN (tR (G.2.2.1 s)) (tN (G.2.2.1 s)) p, G))
      generalize hitN _ _ p = w
      exact Tr.ret ⟨rfl, C2, F2.wk (upR_cA hs)⟩
theorem X9_hits (C : CI h G) (x r : Int32) : Tr (f_X9_hits 1 x r h) (CP h (aHits G x r)) := by
  unfold aHits
  refine X9_os x (fun e => ?_) (fun s hs e e2 => ?_)
  · rw [e]; exact X9_fl C (by decide) (by decide)
  · rw [e2, e]
    dsimp only
    refine X9_up C hs (fun h2 C2 D2 F2 => ?_)
    have L2 := C2.1
    have n1 := tN_le (G.2.2.1 s)
    have n2 := tR_len (G.2.2.1 s)
    have B2 : TbR h2 s (tR (G.2.2.1 s)) (tN (G.2.2.1 s)) := D2.2.2.2.2
    refine Tr.ck (Lso_35 L2 hs) (Tr.be (X7_table L2 hs) (Tr.ck (Lso_54 L2 hs) (X8_hr L2 hs B2 (by omega) r (fun e5 => ?_) (fun j hj e5 e6 => ?_))))
    · rw [e5]
      refine Tr.imp (X9_fl C2 (e := 0) (f := fun v => v) (by decide) (by decide)) (fun v h3 q => ⟨q.1, q.2.1, (F2.wk (upR_cA hs)).tr q.2.2⟩)
    · rw [e6]
      dsimp only
      generalize hRL : tR (G.2.2.1 s) = RL at B2 n1 n2 ⊢
      generalize tN (G.2.2.1 s) = n at B2 n1 n2 ⊢
      refine Tr.up (N := 64) (J := fun p x => x.1 = nI (fb_ct (fun p => decide (hitN RL n p = r)) p) ∧ x.2.1 = nI p ∧ x.2.2 = h2) ?_ ?_ (p := 0) ⟨rfl, rfl, rfl⟩ (Nat.zero_le _) (by omega)
      · intro p x kk hp hJ hk'
        obtain ⟨x1, x2, x3⟩ := x
        obtain ⟨ea, eb, ec⟩ := hJ
        dsimp only at ea eb ec
        subst ea eb ec
        dsimp only
        refine Tr.neg (nI_ge (b := 64) hp (by decide)) (Tr.ck (Lso_54 L2 hs) (Tr.be (X8_firstRowFor L2 hs B2 n1 n2 hp) ?_))
        by_cases c : hitN RL n p = r
        · refine Tr.pos c (Tr.nmx (Tr.nmx (hk' _ ⟨?_, nI_1 p, rfl⟩)))
          dsimp only
          rw [fb_ct, decide_eq_true c]
          exact nI_1 _
        · refine Tr.neg c (Tr.nmx (hk' _ ⟨?_, nI_1 p, rfl⟩))
          dsimp only
          rw [fb_ct, decide_eq_false c]
          rfl
      · intro x kk hJ
        obtain ⟨x1, x2, x3⟩ := x
        obtain ⟨ea, eb, ec⟩ := hJ
        dsimp only at ea eb ec
        subst ea eb ec
        dsimp only
        exact Tr.pos (nI_le (b := 64) (Nat.le_refl _) (by decide)) (Tr.ret ⟨rfl, C2, F2.wk (upR_cA hs)⟩)
theorem X9_errorCount (C : CI h G) (c : Int32) : Tr (f_X9_errorCount 1 c h) (CP h (aErr G c)) := by
  unfold aErr
  by_cases h1 : c < -6
  · rw [show ∀ a b : Int32 × St, (if c < -6 then a else b) = a from fun a b => if_pos h1]
    exact Tr.pos h1 (X9_fl C (by decide) (by decide))
  · rw [show ∀ a b : Int32 × St, (if c < -6 then a else b) = b from fun a b => if_neg h1]
    by_cases h2 : c ≤ -2
    · rw [show ∀ a b : Int32 × St, (if c ≤ -2 then a else b) = a from fun a b => if_pos h2]
      have h3 : ∃ k, k < 5 ∧ (-2 : Int32) - c = nI k := by
        rw [Int32.lt_iff_toInt_lt] at h1
        rw [Int32.le_iff_toInt_le] at h2
        have z0 : (-6 : Int32).toInt = -6 := rfl
        have z1 : (-2 : Int32).toInt = -2 := rfl
        have hh : c = -2 ∨ c = -3 ∨ c = -4 ∨ c = -5 ∨ c = -6 := by
          have y3 : (-3 : Int32).toInt = -3 := rfl
          have y4 : (-4 : Int32).toInt = -4 := rfl
          have y5 : (-5 : Int32).toInt = -5 := rfl
          simp only [← Int32.toInt_inj]
          omega
        rcases hh with rfl | rfl | rfl | rfl | rfl
        · exact ⟨0, by decide, by decide⟩
        · exact ⟨1, by decide, by decide⟩
        · exact ⟨2, by decide, by decide⟩
        · exact ⟨3, by decide, by decide⟩
        · exact ⟨4, by decide, by decide⟩
      obtain ⟨k, hk, ek⟩ := h3
      have L := C.1
      refine Tr.neg h1 (Tr.pos h2 (Tr.ck (Lo_1 L) (Tr.gp (Lp_1_4 L) ?_)))
      rw [ek, nI_clamp (by omega)]
      exact Tr.ca (La_22 L hk) (Tr.ret ⟨C.2.2.2.2.1 k hk, C, Fr.rf⟩)
    · rw [show ∀ a b : Int32 × St, (if c ≤ -2 then a else b) = b from fun a b => if_neg h2]
      exact Tr.neg h1 (Tr.neg h2 (X9_fl C (by decide) (by decide)))
end CLT

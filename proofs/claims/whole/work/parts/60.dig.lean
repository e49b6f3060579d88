/-! THE DIGEST -/
def mx (a b : Int64) : Int64 := 31 * a + b
def fo (f : Nat → Int64 → Int64) (a : Int64) : Nat → Int64
  | 0 => a
  | n + 1 => f n (fo f a n)
def dRow (x : Int64 × Int64) (d : Int32) (a : Int64) : Int64 := fo (fun v b => if hA x v then mx b (nI v).toInt64 else b) (fo (fun f b => mx b (eF d f).toInt64) a 3) 125
def lfR (D : List (Int64 × Int64)) (RL : List (Int32 × Nat)) (k : Nat) : Int64 × Int64 := D.getD (RL.getD k (0, 0)).2 (0, 0)
def dTab (D : List (Int64 × Int64)) (RL : List (Int32 × Nat)) (n : Nat) (a : Int64) : Int64 := fo (fun k b => dRow (lfR D RL k) (RL.getD k (0, 0)).1 b) (mx a (nI n).toInt64) n
noncomputable def dSlot (l : List Nat) (a : Int64) : Int64 := dTab (lD l) (tR l) (tN l) (mx (mx (mx (mx (mx (mx (mx (mx (mx (fo (fun i b => mx b (nI ((prS l).getD i 0)).toInt64) (mx a (nI l.length).toInt64) (prS l).length) (evI l 0)) (evI l 27)) (evI l 63)) (domI (evI l))) (nI (widN (evI l))).toInt64) (nI (rdsN (evI l))).toInt64) (nI (cO (evI l) + (cT (evI l)).length)).toInt64) (nI (cO (evI l))).toInt64) (nI (dpi (cO (evI l)) (dps (cO (evI l)) (cT (evI l))) (cR (evI l)))).toInt64)
noncomputable def dPairs (S : Nat → List Nat) (a : Int64) : Int64 := fo (fun i b => fo (fun j b => if i < j then mx (mx b (ordN (evI (S i)) (evI (S j))).toInt64) (witN (evI (S i)) (evI (S j))).toInt64 else b) b 4) a 4
noncomputable def digF (G : St) : Int64 := mx (dPairs G.2.2.1 (fo (fun s b => dSlot (G.2.2.1 s) b) (mx (fo (fun e b => mx b (G.2.2.2.1 e).toInt64) 2729 5) (nI G.1).toInt64) 4)) (nI G.2.2.2.2.length).toInt64
theorem fo_skip {i : Nat} {f : Nat → Int64 → Int64} {a : Int64} : ∀ n, n ≤ i + 1 → fo (fun j b => if i < j then f j b else b) a n = a := by
  intro n
  induction n with
  | zero => intro _; rfl
  | succ n ih =>
    intro hn
    show (if i < n then _ else _) = _
    rw [if_neg (by omega), ih (by omega)]
section DIG
variable {h : Hp} {G : St} {s : Nat} {l : List Nat}
theorem X9_mixedTable (L : Lay h) (hs : s < 4) (D : Drv h s l) (a : Int64) : f_X9_mixedTable a (54 + 22 * s) (46 + 22 * s) h = some (dTab (lD l) (tR l) (tN l) a, h) := by
  apply Tr.of_eq
  have n1 := tN_le l
  have n2 := tR_len l
  have B : TbR h s (tR l) (tN l) := D.2.2.2.2
  have K : DgOK h s (lD l) (cT (evI l)) (cR (evI l)) := D.2.2.2.1
  have lf : ∀ k, k < (tR l).length → ((tR l).getD k (0, 0)).2 < (lD l).length := fun k hk => vis_leaf _ _ _ _ _ _ (gD_mem _ _ hk)
  unfold dTab
  generalize tR l = RL at B n1 n2 lf ⊢
  generalize tN l = n at B n1 ⊢
  generalize lD l = DL at K lf ⊢
  refine Tr.ck (Lso_54 L hs) (Tr.be (X8_rowTotal L hs B) (Tr.be (r := mx a (nI n).toInt64) (h1 := h) rfl ?_))
  refine Tr.up (N := n) (J := fun k x => x = (fo (fun k b => dRow (lfR DL RL k) (RL.getD k (0, 0)).1 b) (mx a (nI n).toInt64) k, nI k, h)) ?_ ?_ (p := 0) rfl (Nat.zero_le _) (by omega)
  · intro k x kk hk hJ hk'
    subst hJ
    dsimp only
    generalize hacc : fo (fun k b => dRow (lfR DL RL k) (RL.getD k (0, 0)).1 b) (mx a (nI n).toInt64) k = acc at hk'
    refine Tr.neg (nI_ge (b := n) hk (by omega)) ?_
    refine Tr.up (N := 3) (J := fun f x => x = (fo (fun f b => mx b (eF (RL.getD k (0, 0)).1 f).toInt64) acc f, nI f, h)) ?_ ?_ (p := 0) rfl (Nat.zero_le _) (by omega)
    · intro f x kf hf hJ hf'
      subst hJ
      dsimp only
      exact Tr.neg (nI_ge (b := 3) hf (by decide)) (Tr.ck (Lso_54 L hs) (Tr.be (X8_demandsOf L hs B (by omega) n2) (Tr.be (X9_entryOf _ hf h) (Tr.be (r := mx (fo (fun f b => mx b (eF (RL.getD k (0, 0)).1 f).toInt64) acc f) (eF (RL.getD k (0, 0)).1 f).toInt64) (h1 := h) rfl (Tr.nmx (hf' _ (by rw [nI_1]; rfl)))))))
    · intro x kf hJ
      subst hJ
      dsimp only
      refine Tr.pos (nI_le (b := 3) (Nat.le_refl _) (by decide)) (Tr.ck (Lso_54 L hs) (Tr.be (X8_leafOf L hs B (k := k) (by omega) n2) ?_))
      have hx : DL[(RL.getD k (0, 0)).2]? = some (lfR DL RL k) := gD_get _ _ (lf k (by omega))
      generalize hac2 : fo (fun f b => mx b (eF (RL.getD k (0, 0)).1 f).toInt64) acc 3 = ac2
      refine Tr.up (N := 125) (J := fun v x => x = (fo (fun v b => if hA (lfR DL RL k) v then mx b (nI v).toInt64 else b) ac2 v, nI v, h)) ?_ ?_ (p := 0) rfl (Nat.zero_le _) (by omega)
      · intro v x kv hv hJ hv'
        subst hJ
        dsimp only
        refine Tr.neg (nI_ge (b := 125) hv (by decide)) (Tr.ck (Lso_46 L hs) (Tr.be (X0_hasAction L hs K hx hv) ?_))
        have e : fo (fun v b => if hA (lfR DL RL k) v then mx b (nI v).toInt64 else b) ac2 (v + 1) = if hA (lfR DL RL k) v then mx (fo (fun v b => if hA (lfR DL RL k) v then mx b (nI v).toInt64 else b) ac2 v) (nI v).toInt64 else fo (fun v b => if hA (lfR DL RL k) v then mx b (nI v).toInt64 else b) ac2 v := rfl
        cases c : hA (lfR DL RL k) v with
        | false =>
          rw [c] at e
          exact Tr.pos rfl (Tr.nmx (hv' _ (by rw [e, nI_1]; rfl)))
        | true =>
          rw [c] at e
          exact Tr.neg (by decide) (Tr.be (r := mx (fo (fun v b => if hA (lfR DL RL k) v then mx b (nI v).toInt64 else b) ac2 v) (nI v).toInt64) (h1 := h) rfl (Tr.nmx (hv' _ (by rw [e, nI_1]; rfl))))
      · intro x kv hJ
        subst hJ
        dsimp only
        refine Tr.pos (nI_le (b := 125) (Nat.le_refl _) (by decide)) (Tr.nmx (hk' _ ?_))
        rw [nI_1]
        show _ = (dRow (lfR DL RL k) (RL.getD k (0, 0)).1 (fo (fun k b => dRow (lfR DL RL k) (RL.getD k (0, 0)).1 b) (mx a (nI n).toInt64) k), nI (k + 1), h)
        rw [hacc]
        unfold dRow
        rw [hac2]
  · intro x kk hJ
    subst hJ
    dsimp only
    exact Tr.pos (nI_le (b := n) (Nat.le_refl _) (by omega)) (Tr.ret ⟨rfl, rfl⟩)
theorem X9_mixedSlot (L : Lay h) (hs : s < 4) (K0 : SlotOK h s l) (D : Drv h s l) (a : Int64) : f_X9_mixedSlot a (35 + 22 * s) h = some (dSlot l a, h) := by
  apply Tr.of_eq
  have hlen : (prS l).length ≤ 358 := prS_len K0.2.1
  have mk : ∀ (x y : Int64), f_X9_mixed x y h = some (mx x y, h) := fun _ _ => rfl
  refine Tr.ck (Lso_35 L hs) (Tr.be (X7_policy L hs) (Tr.ck (Lso_36 L hs) (Tr.be (X4_nodeCount L (PA_s hs) K0.1) (Tr.be (mk _ _) (Tr.ck (Lso_35 L hs) (Tr.be (X7_printout L hs) (Tr.ck (Lso_39 L hs) (Tr.be (X5_byteCount L hs D) ?_))))))))
  refine Tr.up (N := (prS l).length) (J := fun i x => x = (fo (fun i b => mx b (nI ((prS l).getD i 0)).toInt64) (mx a (nI l.length).toInt64) i, nI i, h)) ?_ ?_ (p := 0) rfl (Nat.zero_le _) (by omega)
  · intro i x kk hi hJ hk'
    subst hJ
    dsimp only
    exact Tr.neg (nI_ge (b := (prS l).length) hi (by omega)) (Tr.ck (Lso_39 L hs) (Tr.be (X5_byteAt L hs D (by omega) hi) (Tr.be (mk _ _) (Tr.nmx (hk' _ (by rw [nI_1]; rfl))))))
  · intro x kk hJ
    subst hJ
    dsimp only
    have K : DgOK h s (lD l) (cT (evI l)) (cR (evI l)) := D.2.2.2.1
    have r := D.2.2.1
    have e1 := X6_imageOf L hs (show 0 < 64 by decide)
    have e2 := X6_imageOf L hs (show 27 < 64 by decide)
    have e3 := X6_imageOf L hs (show 63 < 64 by decide)
    rw [r _ (by decide)] at e1 e2 e3
    have e4 := X6_domain L hs
    have e5 := X6_widest L hs
    have e6 := X6_mostSteps L hs
    rw [domI_congr r] at e4
    rw [widN_congr r] at e5
    rw [rdsN_congr r] at e6
    have o44 := Lso_44 L hs
    have o46 := Lso_46 L hs
    have f1 : f_X0_nodeTotal (46 + 22 * s) h = some (nI (cO (evI l) + (cT (evI l)).length), h) := Tr.of_eq (Tr.ck o46 (Tr.ret ⟨K.2.1.1, rfl⟩))
    have f2 : f_X0_leafTotal (46 + 22 * s) h = some (nI (cO (evI l)), h) := Tr.of_eq (Tr.ck o46 (Tr.ret ⟨K.1.1, rfl⟩))
    have f3 : f_X0_longestWay (46 + 22 * s) h = some (nI (dpi (cO (evI l)) (dps (cO (evI l)) (cT (evI l))) (cR (evI l))), h) := by
      apply Tr.of_eq
      obtain ⟨k1, k2, k3, k4, k5, k6, k7⟩ := id K
      refine Tr.ck o46 ?_
      rw [k4]
      exact Tr.be (X0_depthOf L hs (by omega)) (Tr.ret ⟨dg_depth L hs K k5, rfl⟩)
    refine Tr.pos (nI_le (b := (prS l).length) (Nat.le_refl _) (by omega)) (Tr.ck (Lso_35 L hs) (Tr.be (X7_relation L hs) ?_))
    refine Tr.ck o44 (Tr.be e1 (Tr.be (mk _ _) (Tr.ck o44 (Tr.be e2 (Tr.be (mk _ _) (Tr.ck o44 (Tr.be e3 (Tr.be (mk _ _) ?_))))))))
    refine Tr.ck o44 (Tr.be e4 (Tr.be (mk _ _) (Tr.ck o44 (Tr.be e5 (Tr.be (mk _ _) (Tr.ck o44 (Tr.be e6 (Tr.be (mk _ _) ?_))))))))
    refine Tr.ck (Lso_35 L hs) (Tr.be (X7_diagram L hs) (Tr.ck o46 (Tr.be f1 (Tr.be (mk _ _) (Tr.ck o46 (Tr.be f2 (Tr.be (mk _ _) (Tr.ck o46 (Tr.be f3 (Tr.be (mk _ _) ?_))))))))))
    refine Tr.ck (Lso_35 L hs) (Tr.be (X7_table L hs) (Tr.be (X9_mixedTable L hs D _) (Tr.ret ⟨rfl, rfl⟩)))
end DIG

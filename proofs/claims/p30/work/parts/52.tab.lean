/-- a table: all rows of the walk, and how many are kept -/
def tbR (D : List (Int64 × Int64)) (T : List TE) (r : Nat) : List (Int32 × Nat) := vis D.length T 4 r 124
def rowNE (D : List (Int64 × Int64)) (RL : List (Int32 × Nat)) (k : Nat) : Bool := decide (0 < tot (D.getD (RL.getD k (0, 0)).2 (0, 0)))
def tbN (D : List (Int64 × Int64)) (T : List TE) (r : Nat) : Nat := kep (rowNE D (tbR D T r)) (tbR D T r).length
theorem tbR_len (D : List (Int64 × Int64)) (T : List TE) (r : Nat) : (tbR D T r).length ≤ 64 := vis_len D.length T 3 r 124
theorem tbN_le (D : List (Int64 × Int64)) (T : List TE) (r : Nat) : tbN D T r ≤ (tbR D T r).length := kep_le _ _
theorem visK_leaf {r : Nat → Int32 → List (Int32 × Nat)} {f : Nat} {c : Nat → Nat} {mc : Nat} {q : Int32} {o : Nat} (hr : ∀ i q, ∀ x ∈ r i q, x.2 < o) : ∀ n, ∀ x ∈ visK r f c mc q n, x.2 < o := by
  intro n
  induction n with
  | zero => intro x h; cases h
  | succ n ih =>
    intro x h
    rcases List.mem_append.mp h with e | e
    · exact ih x e
    · split at e
      · cases e
      · exact hr _ _ x e
theorem vis_leaf (o : Nat) (T : List TE) : ∀ m i q, ∀ x ∈ vis o T m i q, x.2 < o := by
  intro m
  induction m with
  | zero => intro i q x h; cases h
  | succ m ih =>
    intro i q x h
    unfold vis at h
    split at h
    · rename_i c
      rw [List.mem_singleton.mp h]; exact c
    · rcases List.mem_append.mp h with e | e
      · exact visK_leaf ih 4 x e
      · exact ih _ _ x e
section X8
variable {h : Hp} {s : Nat} {D : List (Int64 × Int64)} {T : List TE} {r : Nat} {RL : List (Int32 × Nat)}
theorem TbR.fr {A : Nat → Prop} {h1 : Hp} {n : Nat} (B : TbR h s RL n) (F : Fr A h h1) (hA : ∀ a, 54 + 22 * s ≤ a → a ≤ 56 + 22 * s → ¬ A a) : TbR h1 s RL n := by
  unfold TbR
  rw [F.I (hA (54 + 22 * s) (by omega) (by omega)), F.I (hA (55 + 22 * s) (by omega) (by omega)), F.I (hA (56 + 22 * s) (by omega) (by omega))]
  exact B
theorem X8_build (L : Lay h) (hs : s < 4) (G : DgOK h s D T r) : Tr (f_X8_build (54 + 22 * s) (46 + 22 * s) h) (fun _ h1 => TbR h1 s (tbR D T r) (tbN D T r) ∧ Fr (qT s) h h1) := by
  have L1 : Lay (sI h (54 + 22 * s) 2 0) := L
  have F1 : Fr (qT s) h (sI h (54 + 22 * s) 2 0) := Fr.sI ⟨by omega, by omega⟩
  have G1 := G.fr F1 (fun a _ z => qT_out z)
  have B1 : TbR (sI h (54 + 22 * s) 2 0) s [] ([] : List (Int32 × Nat)).length := ⟨by rw [gI_sI, upd_eq]; rfl, fun k x hx => by cases hx⟩
  have hlen := tbR_len D T r
  refine Tr.ck (Lso_54 L hs) (Tr.ck (Lso_46 L1 hs) (Tr.be (Tr.of_eq (Tr.ck (Lso_46 L1 hs) (Tr.ret ⟨rfl, rfl⟩))) ?_))
  rw [G1.2.2.2.1]
  refine Tr.bd (X8_visit hs 3 5 0 rfl (by decide) _ r 124 [] L1 G1 B1 G.2.2.2.2.1 (by rw [List.length_nil]; show 0 + (tbR D T r).length ≤ 64; omega)) (fun _ h2 z => ?_)
  obtain ⟨B2, F2⟩ := z
  rw [List.nil_append] at B2
  have B2 : TbR h2 s (tbR D T r) (tbR D T r).length := B2
  have L2 := F2.lay L1
  have G2 := G1.fr F2 (fun a _ z => qT_out z)
  refine Tr.up (N := (tbR D T r).length) (J := fun k x => x = (nI (kep (rowNE D (tbR D T r)) k), nI k, h2)) ?_ ?_ (p := 0) rfl (Nat.zero_le _) (by omega)
  · intro k x kk hk hJ hk'
    subst hJ
    dsimp only
    have hx := List.getElem?_eq_getElem hk
    obtain ⟨b1, b2⟩ := B2.2 k _ hx
    refine Tr.ck (Lso_54 L2 hs) ?_
    rw [B2.1]
    refine Tr.neg (nI_ge hk (by omega)) (Tr.neg (nI_ge (b := 64) (by omega) (by decide)) (Tr.gp (Lsp_54_1 L2 hs) (Tr.ca (Lsa_56 L2 hs (by omega)) (Tr.ck (Lso_46 L2 hs) ?_))))
    rw [nI_clamp (by omega), b2]
    have hleaf : (tbR D T r)[k].2 < D.length := vis_leaf D.length T 4 r 124 _ (List.getElem_mem hk)
    have hD := List.getElem?_eq_getElem hleaf
    refine Tr.be (X0_actionTotal L2 hs G2 hD) ?_
    have e1 : (tbR D T r).getD k (0, 0) = (tbR D T r)[k] := by rw [List.getD_eq_getElem?_getD, hx]; rfl
    have e2 : rowNE D (tbR D T r) k = decide (0 < tot D[(tbR D T r)[k].2]) := by
      unfold rowNE
      rw [e1, List.getD_eq_getElem?_getD, hD]; rfl
    have ht : tot D[(tbR D T r)[k].2] ≤ 128 := by
      unfold tot
      exact Nat.add_le_add (fb_ct_le _ 64) (fb_ct_le _ 64)
    generalize tot D[(tbR D T r)[k].2] = t at ht e2 ⊢
    refine Tr.cs (fun c => Tr.nmx (hk' _ ?_)) (fun c => Tr.nmx (Tr.nmx (hk' _ ?_)))
    · have c : ¬ 0 < t := fun z => nI_nle z (by omega) c
      rw [nI_1]
      show _ = (nI (if rowNE D (tbR D T r) k then _ else _), _, h2)
      rw [e2, decide_eq_false c]; rfl
    · have c : 0 < t := by
        rcases Nat.eq_zero_or_pos t with z | z
        · exact absurd (by rw [z]; decide) c
        · exact z
      rw [nI_1]
      show _ = (nI (if rowNE D (tbR D T r) k then _ else _), _, h2)
      rw [e2, decide_eq_true c]; rfl
  · intro x kk hJ
    subst hJ
    dsimp only
    refine Tr.ck (Lso_54 L2 hs) ?_
    rw [B2.1]
    refine Tr.pos (nI_le (Nat.le_refl _) (by omega)) (Tr.ret ⟨⟨by rw [gI_sI, upd_eq]; rfl, fun k x hx => ?_⟩, (F1.tr F2).tr (Fr.sI ⟨by omega, by omega⟩)⟩)
    rw [gI_sI_ne (by omega), gI_sI_ne (by omega)]
    exact B2.2 k x hx
variable {n : Nat}
theorem X8_rowTotal (L : Lay h) (hs : s < 4) (B : TbR h s RL n) : f_X8_rowTotal (54 + 22 * s) h = some (nI n, h) := Tr.of_eq (Tr.ck (Lso_54 L hs) (Tr.ret ⟨B.1, rfl⟩))
theorem X8_hasRow (L : Lay h) (hs : s < 4) (B : TbR h s RL n) (x : Int32) : f_X8_hasRow (54 + 22 * s) x h = some (if x < 0 then 0 else if nI n ≤ x then 0 else 1, h) := by
  apply Tr.of_eq
  refine Tr.cs (fun c => Tr.ret ⟨by rw [if_pos c], rfl⟩) (fun c => Tr.ck (Lso_54 L hs) ?_)
  rw [B.1]
  exact Tr.cs (fun c2 => Tr.ret ⟨by rw [if_neg c, if_pos c2], rfl⟩) (fun c2 => Tr.ret ⟨by rw [if_neg c, if_neg c2], rfl⟩)
theorem X8_demandsOf (L : Lay h) (hs : s < 4) (B : TbR h s RL n) {k : Nat} (hk : k < RL.length) (h64 : RL.length ≤ 64) : f_X8_demandsOf (54 + 22 * s) (nI k) h = some ((RL.getD k (0, 0)).1, h) := by
  apply Tr.of_eq
  have hx := List.getElem?_eq_getElem hk
  refine Tr.neg (nI_pos (by omega)) (Tr.neg (nI_ge (b := 64) (by omega) (by decide)) (Tr.ck (Lso_54 L hs) (Tr.gp (Lsp_54_0 L hs) (Tr.ca (Lsa_55 L hs (by omega)) (Tr.ret ⟨?_, rfl⟩)))))
  rw [nI_clamp (by omega), (B.2 k _ hx).1, List.getD_eq_getElem?_getD, hx]; rfl
theorem X8_leafOf (L : Lay h) (hs : s < 4) (B : TbR h s RL n) {k : Nat} (hk : k < RL.length) (h64 : RL.length ≤ 64) : f_X8_leafOf (54 + 22 * s) (nI k) h = some (nI (RL.getD k (0, 0)).2, h) := by
  apply Tr.of_eq
  have hx := List.getElem?_eq_getElem hk
  refine Tr.neg (nI_pos (by omega)) (Tr.neg (nI_ge (b := 64) (by omega) (by decide)) (Tr.ck (Lso_54 L hs) (Tr.gp (Lsp_54_1 L hs) (Tr.ca (Lsa_56 L hs (by omega)) (Tr.ret ⟨?_, rfl⟩)))))
  rw [nI_clamp (by omega), (B.2 k _ hx).2, List.getD_eq_getElem?_getD, hx]; rfl
theorem X8_firstRowFor (L : Lay h) (hs : s < 4) (B : TbR h s RL n) (hn : n ≤ RL.length) (h64 : RL.length ≤ 64) {p : Nat} (hp : p < 64) : f_X8_firstRowFor (54 + 22 * s) (nI p) h = some (hitN RL n p, h) := by
  apply Tr.of_eq
  refine Tr.up (N := n) (J := fun k x => x = (nI k, h) ∧ ∀ j, j < k → mtF (RL.getD j (0, 0)).1 p 3 = false) ?_ ?_ (p := 0) ⟨rfl, fun j hj => absurd hj (Nat.not_lt_zero _)⟩ (Nat.zero_le _) (by omega)
  · intro k x kk hk hJ hk'
    obtain ⟨rfl, hj⟩ := hJ
    dsimp only
    have hx := List.getElem?_eq_getElem (show k < RL.length by omega)
    have e1 : RL.getD k (0, 0) = RL[k] := by rw [List.getD_eq_getElem?_getD, hx]; rfl
    refine Tr.ck (Lso_54 L hs) ?_
    rw [B.1]
    refine Tr.neg (nI_ge hk (by omega)) (Tr.neg (nI_ge (b := 64) (by omega) (by decide)) (Tr.gp (Lsp_54_0 L hs) (Tr.ca (Lsa_55 L hs (by omega)) ?_)))
    rw [nI_clamp (by omega), (B.2 k _ hx).1]
    refine Tr.be (X8_meets hp _ h) ?_
    refine Tr.cs (fun c => Tr.nmx (hk' _ ⟨by rw [nI_1], fun j hj2 => ?_⟩)) (fun c => Tr.ret ⟨?_, rfl⟩)
    · by_cases e : j = k
      · subst e; rw [e1]; exact bi_0.mp c
      · exact hj j (by omega)
    · have c : mtF RL[k].1 p 3 = true := by
        cases y : mtF RL[k].1 p 3 with
        | true => rfl
        | false => exact absurd (by rw [y]; rfl) c
      have e : lea (fun r => mtF (RL.getD r (0, 0)).1 p 3) n = k := lea_eq hk (by rw [e1]; exact c) hj
      unfold hitN
      rw [e, if_pos hk]
  · intro x kk hJ
    obtain ⟨rfl, hj⟩ := hJ
    refine Tr.ck (Lso_54 L hs) ?_
    rw [B.1]
    refine Tr.pos (nI_le (Nat.le_refl _) (by omega)) (Tr.ret ⟨?_, rfl⟩)
    have e : lea (fun r => mtF (RL.getD r (0, 0)).1 p 3) n = n := lea_all hj
    unfold hitN
    rw [e, if_neg (Nat.lt_irrefl _)]
end X8

section X0
variable {h : Hp} {s o : Nat} {D : List (Int64 × Int64)} {T : List TE}
/-- the tests behind one group more -/
def tst (f : Nat) (b : Nat → Nat) (T : List TE) (g : Nat) : List TE := if alq b g then T else insA T (tsk f b g)
theorem nid_lt {o f g : Nat} {b : Nat → Nat} {T : List TE} (hb : b (4 * g) < o + T.length) : nid o f b (tst f b T g) g < o + (tst f b T g).length := by
  unfold nid tst
  cases ha : alq b g with
  | true => exact hb
  | false =>
    have : tsk f b g ∈ insA T (tsk f b g) := mem_insA
    have := ixo_lt this
    show o + ixo (insA T (tsk f b g)) _ < o + (insA T (tsk f b g)).length
    omega
theorem tst_len {f g : Nat} {b : Nat → Nat} {T : List TE} : T.length ≤ (tst f b T g).length ∧ (tst f b T g).length ≤ T.length + 1 := by
  unfold tst
  split
  · omega
  · obtain ⟨M, e⟩ := insA_pre (L := T) (x := tsk f b g)
    have := insA_len (L := T) (x := tsk f b g)
    refine ⟨?_, this⟩
    rw [e, List.length_append]; omega
theorem X0_node71 (L : Lay h) (hs : s < 4) (G : DgL h s D) (ho : D.length = o) (GT : DgT h s o T) (ok : TOK o T) (hlen : o + T.length < 85) {f g : Nat} {b : Nat → Nat} (hf : f < 3) (hg : 4 * g + 3 < 64) (hb : ∀ v, v < 4 → gI h (52 + 22 * s) (4 * g + v) = nI (b (4 * g + v)) ∧ b (4 * g + v) < o + T.length) (ha : alq b g = false) :
    Tr (f_X0_nodeFor_71 (46 + 22 * s) (nI f) (nI (4 * g)) (nI (b (4 * g))) (nI (b (4 * g + 1))) (nI (b (4 * g + 2))) (nI (b (4 * g + 3))) h) (fun r h1 => r = nI (nid o f b (tst f b T g) g) ∧ DgL h1 s D ∧ DgT h1 s o (tst f b T g) ∧ TOK o (tst f b T g) ∧ Fr (qD s) h h1 ∧ gI h1 (52 + 22 * s) = gI h (52 + 22 * s)) := by
  have h0 := (hb 0 (by decide)).2
  have h1 := (hb 1 (by decide)).2
  have h2 := (hb 2 (by decide)).2
  have h3 := (hb 3 (by decide)).2
  rw [Nat.add_zero] at h0
  refine Tr.ck (Lso_46 L hs) (Tr.be (X0_testWith L hs (by rw [G.1, ho]) GT ok (by omega) (by omega) (by omega) (by omega) (by omega) (by omega)) ?_)
  have e1 : tst f b T g = insA T (tsk f b g) := by unfold tst; rw [ha]; rfl
  have e2 : nid o f b (insA T (tsk f b g)) g = o + ixo (insA T (tsk f b g)) (tsk f b g) := by unfold nid; rw [ha]; rfl
  rw [e1, e2]
  by_cases hm : tsk f b g ∈ T
  · have hx := ixo_lt hm
    have hm2 : (f, [b (4 * g), b (4 * g + 1), b (4 * g + 2), b (4 * g + 3)]) ∈ T := hm
    rw [if_pos hm2]
    have hins : insA T (tsk f b g) = T := if_pos hm
    rw [hins]
    exact Tr.neg (fun e => nI_pos (n := o + ixo T (tsk f b g)) (by omega) (by rw [show nI (o + ixo T (tsk f b g)) = -1 from e]; decide)) (Tr.ret ⟨rfl, G, GT, ok, Fr.rf, rfl⟩)
  · have hm2 : ¬ (f, [b (4 * g), b (4 * g + 1), b (4 * g + 2), b (4 * g + 3)]) ∈ T := hm
    rw [if_neg hm2]
    have hins : insA T (tsk f b g) = T ++ [tsk f b g] := if_neg hm
    rw [hins, ixo_snoc hm]
    exact Tr.pos rfl (Tr.ck (Lso_46 L hs) (Tr.bd (X0_newTest L hs G ho GT ok hlen hf hg hb) (fun r h2 q => Tr.ret q)))
theorem X0_nodeFor (L : Lay h) (hs : s < 4) (G : DgL h s D) (ho : D.length = o) (GT : DgT h s o T) (ok : TOK o T) (hlen : o + T.length < 85) {f g : Nat} {b : Nat → Nat} (hf : f < 3) (hg : 4 * g + 3 < 64) (hb : ∀ v, v < 4 → gI h (52 + 22 * s) (4 * g + v) = nI (b (4 * g + v)) ∧ b (4 * g + v) < o + T.length) :
    Tr (f_X0_nodeFor (46 + 22 * s) (nI f) (nI (4 * g)) h) (fun r h1 => r = nI (nid o f b (tst f b T g) g) ∧ DgL h1 s D ∧ DgT h1 s o (tst f b T g) ∧ TOK o (tst f b T g) ∧ Fr (qD s) h h1 ∧ gI h1 (52 + 22 * s) = gI h (52 + 22 * s)) := by
  have b0 := hb 0 (by decide)
  have b1 := hb 1 (by decide)
  have b2 := hb 2 (by decide)
  have b3 := hb 3 (by decide)
  rw [Nat.add_zero] at b0
  have e1 : nI (4 * g) + 1 = nI (4 * g + 1) := nI_1 _
  have e2 : nI (4 * g) + 2 = nI (4 * g + 2) := nI_add _ 2
  have e3 : nI (4 * g) + 3 = nI (4 * g + 3) := nI_add _ 3
  refine Tr.neg (nI_pos (by omega)) ?_
  rw [e3]
  refine Tr.pos (nI_lt (b := 64) hg (by decide)) (Tr.ck (Lso_46 L hs) (Tr.gp (Lsp_46_8 L hs) (Tr.ca (Lsa_52 L hs (by omega)) (Tr.nm (fun y0 f0 => Tr.gp (Lsp_46_8 L hs) ?_)))))
  rw [e1]
  refine Tr.ca (Lsa_52 L hs (by omega)) (Tr.nm (fun y1 f1 => Tr.gp (Lsp_46_8 L hs) ?_))
  rw [e2]
  refine Tr.ca (Lsa_52 L hs (by omega)) (Tr.nm (fun y2 f2 => Tr.gp (Lsp_46_8 L hs) (Tr.ca (Lsa_52 L hs (by omega)) (Tr.nm (fun y3 f3 => ?_)))))
  rw [nI_clamp (by omega), b0.1] at f0
  rw [nI_clamp (by omega), b1.1] at f1
  rw [nI_clamp (by omega), b2.1] at f2
  rw [nI_clamp (by omega), b3.1] at f3
  subst f0 f1 f2 f3
  have hn : alq b g = false → _ := fun ha => X0_node71 L hs G ho GT ok hlen hf hg hb ha
  have c1 : (b (4 * g) == b (4 * g + 1)) = decide (nI (b (4 * g)) = nI (b (4 * g + 1))) := by
    by_cases c : b (4 * g) = b (4 * g + 1)
    · rw [c]; simp
    · rw [decide_eq_false (fun z => c ((nI_eq (by omega) (by omega)).mp z))]; simpa using c
  have c2 : (b (4 * g) == b (4 * g + 2)) = decide (nI (b (4 * g)) = nI (b (4 * g + 2))) := by
    by_cases c : b (4 * g) = b (4 * g + 2)
    · rw [c]; simp
    · rw [decide_eq_false (fun z => c ((nI_eq (by omega) (by omega)).mp z))]; simpa using c
  have c3 : (b (4 * g) == b (4 * g + 3)) = decide (nI (b (4 * g)) = nI (b (4 * g + 3))) := by
    by_cases c : b (4 * g) = b (4 * g + 3)
    · rw [c]; simp
    · rw [decide_eq_false (fun z => c ((nI_eq (by omega) (by omega)).mp z))]; simpa using c
  refine Tr.cs (fun d1 => Tr.cs (fun d2 => Tr.cs (fun d3 => ?_) (fun d3 => ?_)) (fun d2 => ?_)) (fun d1 => ?_)
  · have ha : alq b g = true := by unfold alq; rw [c1, c2, c3, decide_eq_true d1, decide_eq_true d2, decide_eq_true d3]; rfl
    have e1 : tst f b T g = T := by unfold tst; rw [ha]; rfl
    have e2 : nid o f b T g = b (4 * g) := by unfold nid; rw [ha]; rfl
    rw [e1, e2]
    exact Tr.ret ⟨rfl, G, GT, ok, Fr.rf, rfl⟩
  · exact hn (by unfold alq; rw [c1, c2, c3, decide_eq_false d3, Bool.and_false, Bool.and_false])
  · exact hn (by unfold alq; rw [c1, c2, decide_eq_false d2, Bool.false_and, Bool.and_false])
  · exact hn (by unfold alq; rw [c1, decide_eq_false d1, Bool.false_and])
/-- one field's round -/
theorem X0_bld55 (L : Lay h) (hs : s < 4) (G : DgL h s D) (ho : D.length = o) (GT : DgT h s o T) (ok : TOK o T) {f n : Nat} {b : Nat → Nat} (hf : f < 3) (hn : 1 ≤ n ∧ n ≤ 16) (hlen : o + T.length + n ≤ 85) (hb : ∀ j, j < 4 * n → gI h (52 + 22 * s) j = nI (b j) ∧ b j < o + T.length)
    {k48 : (Int32 × Int32 × Hp) → Option (Unit × Hp)} {Q : Unit → Hp → Prop} (kk : ∀ h1, DgL h1 s D → DgT h1 s o (tss f b T n) → TOK o (tss f b T n) → Fr (qD s) h h1 → (∀ k, k < n → gI h1 (52 + 22 * s) k = nI (nid o f b (tss f b T n) k) ∧ nid o f b (tss f b T n) k < o + (tss f b T n).length) → Tr (k48 (nI (n / 4), nI f - 1, h1)) Q) :
    Tr (loopN (fun kc x => f_X0_build_55 k48 kc (46 + 22 * s) (nI n) (nI f) x.1 x.2) 5000 ((0 : Int32), h)) Q := by
  refine Tr.up (N := n) (J := fun k x => x.1 = nI k ∧ DgL x.2 s D ∧ DgT x.2 s o (tss f b T k) ∧ TOK o (tss f b T k) ∧ Fr (qD s) h x.2 ∧ (∀ j, j < k → gI x.2 (52 + 22 * s) j = nI (nid o f b (tss f b T k) j) ∧ nid o f b (tss f b T k) j < o + (tss f b T k).length) ∧ ∀ j, k ≤ j → gI x.2 (52 + 22 * s) j = gI h (52 + 22 * s) j) ?_ ?_ (p := 0) ⟨rfl, G, GT, ok, Fr.rf, fun j hj => absurd hj (Nat.not_lt_zero _), fun _ _ => rfl⟩ (Nat.zero_le _) (by omega)
  · intro k x kc hk hJ hk'
    obtain ⟨x1, h1⟩ := x
    obtain ⟨e, G1, GT1, ok1, F1, B1, B2⟩ := hJ
    dsimp only at e G1 GT1 F1 B1 B2
    subst e
    dsimp only
    have L1 := F1.lay L
    have hl := tss_len f b T k
    obtain ⟨M, hM⟩ := tss_pre f b T (Nat.zero_le k)
    have hge : T.length ≤ (tss f b T k).length := by rw [hM, List.length_append]; exact Nat.le_add_right _ _
    have em : nI k * (4 : Int32) = nI (4 * k) := by rw [show (4 : Int32) = nI 4 from rfl, pk_mul, Nat.mul_comm]
    refine Tr.neg (nI_ge hk (by omega)) (Tr.ck (Lso_46 L1 hs) (Tr.gp (Lsp_46_8 L1 hs) ?_))
    rw [em]
    have hstep : tst f b (tss f b T k) k = tss f b T (k + 1) := rfl
    refine Tr.bd (X0_nodeFor L1 hs G1 ho GT1 ok1 (by omega) hf (by omega) (fun v hv => ⟨by rw [B2 _ (by omega)]; exact (hb _ (by omega)).1, by have := (hb (4 * k + v) (by omega)).2; omega⟩)) (fun r h2 q => ?_)
    obtain ⟨rfl, G2, GT2, ok2, F2, g52⟩ := q
    have hid := nid_lt (o := o) (f := f) (g := k) (b := b) (T := tss f b T k) (by have := (hb (4 * k) (by omega)).2; omega)
    rw [hstep] at GT2 ok2 hid
    rw [hstep]
    have L2 := F2.lay L1
    refine Tr.ca (Lsa_52 L2 hs (by omega)) (Tr.nmx (hk' _ ⟨nI_1 k, ?_, ?_, ok2, ?_, fun j hj => ?_, fun j hj => ?_⟩))
    · dsimp only
      rw [sI_w]
      refine ⟨?_, G2.2.1, fun i hi => ?_⟩
      · rw [gI_wI_ne (by omega)]; exact G2.1
      · rw [gI_wI_ne (by omega)]; exact G2.2.2 i hi
    · dsimp only
      rw [sI_w]
      unfold DgT
      rw [gI_wI_ne (by omega), gI_wI_ne (by omega), gI_wI_ne (by omega), gI_wI_ne (by omega)]
      exact GT2
    · exact (F1.tr F2).tr (Fr.sI ⟨by omega, by omega⟩)
    · dsimp only
      rw [gI_sI, nI_clamp (by omega)]
      by_cases e : j = k
      · subst e; rw [upd_eq]; exact ⟨rfl, hid⟩
      · rw [upd_ne e, g52, (B1 j (by omega)).1, nid_pre o f b T (m := j) (n := k) (k := k + 1) (by omega) (by omega)]
        refine ⟨rfl, ?_⟩
        have h1 := (B1 j (by omega)).2
        have h2 := (tst_len (f := f) (g := k) (b := b) (T := tss f b T k)).1
        rw [hstep] at h2
        omega
    · dsimp only
      rw [gI_sI, nI_clamp (by omega), upd_ne (by omega), g52]
      exact B2 j (by omega)
  · intro x kc hJ
    obtain ⟨x1, h1⟩ := x
    obtain ⟨e, G1, GT1, ok1, F1, B1, B2⟩ := hJ
    dsimp only at e G1 GT1 F1 B1 B2
    subst e
    dsimp only
    refine Tr.pos (nI_le (Nat.le_refl _) (by omega)) (Tr.nmx (Tr.nmx ?_))
    have ed : nI n / (4 : Int32) = nI (n / 4) := pk_div (d := 4) (by omega) (by decide) (by decide)
    have ef : nI f + (-1 : Int32) = nI f - 1 := by
      cases f with
      | zero => decide
      | succ f => rw [pk_m1, nI_pred]
    rw [ed, ef]
    exact kk h1 G1 GT1 ok1 F1 B1
end X0

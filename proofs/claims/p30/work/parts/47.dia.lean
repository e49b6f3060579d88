theorem Tr.unr {ρ σ : Type} {Q : ρ → Hp → Prop} {body : (σ → Option (ρ × Hp)) → σ → Option (ρ × Hp)} {n : Nat} {s : σ} (k : Tr (body (loopN body n) s) Q) : Tr (loopN body (n + 1) s) Q := k
theorem te_eq {e : TE} (h : e.2.length = 4) {f a b c d : Nat} : e = (f, [a, b, c, d]) ↔ e.1 = f ∧ e.2.getD 0 0 = a ∧ e.2.getD 1 0 = b ∧ e.2.getD 2 0 = c ∧ e.2.getD 3 0 = d := by
  obtain ⟨x, l⟩ := e
  match l, h with
  | [p, q, r, s], _ => simp [Prod.ext_iff]
theorem snoc_ind {α : Type} {P : List α → Prop} (h0 : P []) (hs : ∀ T e, P T → P (T ++ [e])) : ∀ T, P T := by
  have : ∀ (n : Nat) (T : List α), T.length = n → P T := by
    intro n
    induction n with
    | zero => intro T h; rw [List.length_eq_zero_iff.mp h]; exact h0
    | succ n ih =>
      intro T h
      rcases List.eq_nil_or_concat T with h1 | ⟨T', e, h1⟩
      · rw [h1]; exact h0
      · rw [List.concat_eq_append] at h1
        subst h1
        exact hs T' e (ih T' (by simpa using h))
  exact fun T => this _ T rfl
theorem dps_le (o : Nat) : ∀ T : List TE, ∀ x ∈ dps o T, x ≤ T.length := by
  refine snoc_ind (fun x h => by cases h) (fun T e ih x hx => ?_)
  rw [dps_snoc] at hx
  rw [List.length_append, List.length_singleton]
  rcases List.mem_append.mp hx with h | h
  · have := ih x h; omega
  · have hx : x = dpE o (dps o T) e := by simpa using h
    rw [hx]
    unfold dpE mx4
    have : mxF (fun v => dpi o (dps o T) (e.2.getD v 0)) 4 ≤ T.length := mxF_le (fun v _ => by
      unfold dpi
      split
      · exact Nat.zero_le _
      · rw [List.getD_eq_getElem?_getD]
        cases hk : (dps o T)[e.2.getD v 0 - o]? with
        | none => exact Nat.zero_le _
        | some y => exact ih y (List.mem_of_getElem? hk))
    omega
theorem dpi_le (o : Nat) (T : List TE) (i : Nat) : dpi o (dps o T) i ≤ T.length := by
  unfold dpi
  split
  · exact Nat.zero_le _
  · rw [List.getD_eq_getElem?_getD]
    cases hk : (dps o T)[i - o]? with
    | none => exact Nat.zero_le _
    | some y => exact dps_le o T y (List.mem_of_getElem? hk)
section X0
variable {h : Hp} {s o : Nat} {D : List (Int64 × Int64)} {T : List TE}
/-- children lie ahead -/
def TOK (o : Nat) (T : List TE) : Prop := ∀ k e, T[k]? = some e → e.1 < 3 ∧ e.2.length = 4 ∧ ∀ v, v < 4 → e.2.getD v 0 < o + k
def DgT (h : Hp) (s o : Nat) (T : List TE) : Prop := gI h (46 + 22 * s) 6 = nI (o + T.length) ∧ ∀ k e, T[k]? = some e → gI h (49 + 22 * s) (o + k) = nI e.1 ∧ (∀ v, v < 4 → gI h (51 + 22 * s) (4 * (o + k) + v) = nI (e.2.getD v 0)) ∧ gI h (50 + 22 * s) (o + k) = nI ((dps o T).getD k 0)
theorem idx4 (k v : Nat) : nI k * (4 : Int32) + nI v = nI (4 * k + v) := by
  rw [show (4 : Int32) = nI 4 from rfl, pk_mul, nI_add, Nat.mul_comm]
theorem X0_childOf (L : Lay h) (hs : s < 4) {n v : Nat} (hn : n < 85) (hv : v < 4) : f_X0_childOf (46 + 22 * s) (nI n) (nI v) h = some (gI h (51 + 22 * s) (4 * n + v), h) := by
  apply Tr.of_eq
  refine Tr.nm (fun w e => ?_)
  rw [idx4] at e
  subst e
  refine Tr.neg (nI_pos (by omega)) (Tr.ck (Lso_46 L hs) (Tr.gp (Lsp_46_4 L hs) (Tr.ck (Lsk_51 L hs) ?_)))
  rw [Lsn_51 L hs]
  refine Tr.neg (nI_ge (b := 340) (by omega) (by decide)) (Tr.gp (Lsp_46_4 L hs) (Tr.ca (Lsa_51 L hs (by omega)) (Tr.ret ⟨?_, rfl⟩)))
  rw [nI_clamp (by omega)]
theorem X0_fieldOf (L : Lay h) (hs : s < 4) {n : Nat} (hn : n < 85) : f_X0_fieldOf (46 + 22 * s) (nI n) h = some (gI h (49 + 22 * s) n, h) := by
  apply Tr.of_eq
  refine Tr.neg (nI_pos (by omega)) (Tr.neg (nI_ge (b := 85) hn (by decide)) (Tr.ck (Lso_46 L hs) (Tr.gp (Lsp_46_2 L hs) (Tr.ca (Lsa_49 L hs hn) (Tr.ret ⟨?_, rfl⟩)))))
  rw [nI_clamp (by omega)]
theorem X0_depthOf (L : Lay h) (hs : s < 4) {n : Nat} (hn : n < 85) : f_X0_depthOf (46 + 22 * s) (nI n) h = some (gI h (50 + 22 * s) n, h) := by
  apply Tr.of_eq
  refine Tr.neg (nI_pos (by omega)) (Tr.neg (nI_ge (b := 85) hn (by decide)) (Tr.ck (Lso_46 L hs) (Tr.gp (Lsp_46_3 L hs) (Tr.ca (Lsa_50 L hs hn) (Tr.ret ⟨?_, rfl⟩)))))
  rw [nI_clamp (by omega)]
theorem dg_dep (G : DgL h s D) (GT : DgT h s o T) (ho : D.length = o) {i : Nat} (hi : i < o + T.length) : gI h (50 + 22 * s) i = nI (dpi o (dps o T) i) := by
  unfold dpi
  by_cases c : i < o
  · rw [if_pos c, G.2.2 i (by omega)]; rfl
  · rw [if_neg c]
    have := (GT.2 (i - o) _ (List.getElem?_eq_getElem (show i - o < T.length by omega))).2.2
    rw [show o + (i - o) = i by omega] at this
    exact this
theorem X0_testWith (L : Lay h) (hs : s < 4) (ho1 : gI h (46 + 22 * s) 5 = nI o) (GT : DgT h s o T) (ok : TOK o T) (hlen : o + T.length ≤ 85) {f a b c d : Nat} (hf : f < 2 ^ 31) (ha : a < 2 ^ 31) (hb : b < 2 ^ 31) (hc : c < 2 ^ 31) (hd : d < 2 ^ 31) : f_X0_testWith (46 + 22 * s) (nI f) (nI a) (nI b) (nI c) (nI d) h = some (if (f, [a, b, c, d]) ∈ T then nI (o + ixo T (f, [a, b, c, d])) else -1, h) := by
  apply Tr.of_eq
  refine Tr.ck (Lso_46 L hs) (Tr.nmx ?_)
  rw [ho1]
  refine Tr.up (N := T.length) (J := fun k x => x = (nI (o + k), h) ∧ ∀ j, j < k → T[j]? ≠ some (f, [a, b, c, d])) ?_ ?_ (p := 0) ⟨rfl, fun j hj => absurd hj (Nat.not_lt_zero _)⟩ (Nat.zero_le _) (by omega)
  · intro k x kk hk hJ hk'
    obtain ⟨rfl, hJ⟩ := hJ
    dsimp only
    have hx := List.getElem?_eq_getElem hk
    obtain ⟨g1, g2, _⟩ := GT.2 k _ hx
    obtain ⟨t1, t2, t3⟩ := ok k _ hx
    have v0 := t3 0 (by decide)
    have v1 := t3 1 (by decide)
    have v2 := t3 2 (by decide)
    have v3 := t3 3 (by decide)
    have hte := te_eq t2 (f := f) (a := a) (b := b) (c := c) (d := d)
    have next : (¬ T[k] = (f, [a, b, c, d])) → Tr (kk (nI (o + k) + 1, h)) (fun r' h' => r' = (if (f, [a, b, c, d]) ∈ T then nI (o + ixo T (f, [a, b, c, d])) else -1) ∧ h' = h) := fun hn => by
      rw [nI_1]
      refine hk' _ ⟨rfl, fun j hj => ?_⟩
      by_cases e : j = k
      · subst e; rw [hx]; intro z; exact hn (Option.some.inj z)
      · exact hJ j (by omega)
    refine Tr.ck (Lso_46 L hs) ?_
    rw [GT.1]
    refine Tr.neg (nI_ge (by omega) (by omega)) (Tr.neg (nI_ge (b := 85) (by omega) (by decide)) (Tr.gp (Lsp_46_2 L hs) (Tr.ca (Lsa_49 L hs (by omega)) ?_)))
    rw [nI_clamp (by omega), g1]
    refine Tr.cs (fun c0 => ?_) (fun c0 => Tr.nmx (next (fun z => c0 (by rw [(hte.mp z).1]))))
    have c0 := (nI_eq (by omega) hf).mp c0
    refine Tr.be (X0_childOf L hs (v := 0) (by omega) (by omega)) ?_
    rw [g2 0 (by decide)]
    refine Tr.cs (fun c1 => ?_) (fun c1 => Tr.nmx (next (fun z => c1 (by rw [(hte.mp z).2.1]))))
    have c1 := (nI_eq (by omega) ha).mp c1
    refine Tr.ck (Lso_46 L hs) (Tr.be (X0_childOf L hs (v := 1) (by omega) (by omega)) ?_)
    rw [g2 1 (by decide)]
    refine Tr.cs (fun c2 => ?_) (fun c2 => Tr.nmx (next (fun z => c2 (by rw [(hte.mp z).2.2.1]))))
    have c2 := (nI_eq (by omega) hb).mp c2
    refine Tr.ck (Lso_46 L hs) (Tr.be (X0_childOf L hs (v := 2) (by omega) (by omega)) ?_)
    rw [g2 2 (by decide)]
    refine Tr.cs (fun c3 => ?_) (fun c3 => Tr.nmx (next (fun z => c3 (by rw [(hte.mp z).2.2.2.1]))))
    have c3 := (nI_eq (by omega) hc).mp c3
    refine Tr.ck (Lso_46 L hs) (Tr.be (X0_childOf L hs (v := 3) (by omega) (by omega)) ?_)
    rw [g2 3 (by decide)]
    refine Tr.cs (fun c4 => ?_) (fun c4 => Tr.nmx (next (fun z => c4 (by rw [(hte.mp z).2.2.2.2]))))
    have c4 := (nI_eq (by omega) hd).mp c4
    refine Tr.ret ⟨?_, rfl⟩
    have e : T[k]? = some (f, [a, b, c, d]) := by rw [hx]; exact congrArg some (hte.mpr ⟨c0, c1, c2, c3, c4⟩)
    rw [if_pos (List.mem_of_getElem? e), ixo_eq e hJ]
  · intro x kk hJ
    obtain ⟨rfl, hJ⟩ := hJ
    refine Tr.ck (Lso_46 L hs) ?_
    rw [GT.1]
    refine Tr.pos (nI_le (Nat.le_refl _) (by omega)) (Tr.ret ⟨?_, rfl⟩)
    rw [if_neg (fun e => ?_)]
    obtain ⟨i, hi⟩ := List.mem_iff_getElem?.mp e
    exact hJ i (List.getElem?_eq_some_iff.mp hi).1 hi
theorem getD4 {a b c d : Nat} {v : Nat} : ([a, b, c, d] : List Nat).getD v 0 = if v = 0 then a else if v = 1 then b else if v = 2 then c else if v = 3 then d else 0 := by
  match v with
  | 0 => rfl
  | 1 => rfl
  | 2 => rfl
  | 3 => rfl
  | v + 4 => simp
theorem X0_newTest (L : Lay h) (hs : s < 4) (G : DgL h s D) (ho : D.length = o) (GT : DgT h s o T) (ok : TOK o T) (hlen : o + T.length < 85) {f g : Nat} {b : Nat → Nat} (hf : f < 3) (hg : 4 * g + 3 < 64) (hb : ∀ v, v < 4 → gI h (52 + 22 * s) (4 * g + v) = nI (b (4 * g + v)) ∧ b (4 * g + v) < o + T.length) :
    Tr (f_X0_newTest (46 + 22 * s) (nI f) (nI (4 * g)) h) (fun r h1 => r = nI (o + T.length) ∧ DgL h1 s D ∧ DgT h1 s o (T ++ [tsk f b g]) ∧ TOK o (T ++ [tsk f b g]) ∧ Fr (qD s) h h1 ∧ gI h1 (52 + 22 * s) = gI h (52 + 22 * s)) := by
  have hch : ∀ v, v < 4 → (tsk f b g).2.getD v 0 = b (4 * g + v) := fun v hv => by
    show ([_, _, _, _] : List Nat).getD v 0 = _
    rw [getD4]
    match v, hv with
    | 0, _ => rfl
    | 1, _ => rfl
    | 2, _ => rfl
    | 3, _ => rfl
  refine Tr.ck (Lso_46 L hs) ?_
  rw [GT.1]
  refine Tr.neg (nI_pos (by omega)) (Tr.pos (nI_lt (b := 85) hlen (by decide)) ?_)
  refine Tr.up (N := 4) (J := fun v x => ∃ fc dp, x = (nI dp, nI v, wI h (51 + 22 * s) fc) ∧ dp ≤ 85 ∧ dp = mxF (fun v => dpi o (dps o T) (b (4 * g + v))) v ∧ (∀ w, w < v → fc (4 * (o + T.length) + w) = nI (b (4 * g + w))) ∧ ∀ j, j < 4 * (o + T.length) → fc j = gI h (51 + 22 * s) j) ?_ ?_ (p := 0) ⟨_, 0, by rw [wI_self]; rfl, by omega, rfl, fun w hw => absurd hw (Nat.not_lt_zero _), fun _ _ => rfl⟩ (Nat.zero_le _) (by omega)
  · intro v x kk hv hJ hk'
    obtain ⟨fc, dp, rfl, j0, j1, j2, j3⟩ := hJ
    dsimp only
    have L1 : Lay (wI h (51 + 22 * s) fc) := L
    obtain ⟨b1, b2⟩ := hb v hv
    have ev : nI (4 * g) + nI v = nI (4 * g + v) := nI_add _ _
    refine Tr.neg (nI_ge (b := 4) hv (by decide)) (Tr.ck (Lso_46 L1 hs) (Tr.gp (Lsp_46_8 L1 hs) ?_))
    rw [ev]
    refine Tr.ca (Lsa_52 L1 hs (by omega)) (Tr.nm (fun y ey => ?_))
    rw [nI_clamp (by omega), gI_wI_ne (by omega), b1] at ey
    subst ey
    refine Tr.gp (Lsp_46_4 L1 hs) ?_
    rw [gI_wI_ne (by omega), GT.1, idx4]
    refine Tr.ca (Lsa_51 L1 hs (by omega)) ?_
    rw [nI_clamp (by omega), sI_w, gI_wI, wI_wI]
    have L2 : Lay (wI h (51 + 22 * s) (va_up fc (4 * (o + T.length) + v) (nI (b (4 * g + v))))) := L
    refine Tr.be (X0_depthOf L2 hs (n := b (4 * g + v)) (by omega)) ?_
    rw [gI_wI_ne (by omega), dg_dep G GT ho b2]
    have hd85 := dpi_le o T (b (4 * g + v))
    refine Tr.nmx (Tr.nmx (hk' _ ⟨va_up fc (4 * (o + T.length) + v) (nI (b (4 * g + v))), mxF (fun v => dpi o (dps o T) (b (4 * g + v))) (v + 1), ?_, ?_, rfl, fun w hw => ?_, fun j hj => ?_⟩))
    · rw [nI_1, J9_max (by omega) (by omega) h, j1]
      rfl
    · exact Nat.le_trans (mxF_le (B := T.length) (fun j hj => dpi_le o T _)) (by omega)
    · by_cases e : w = v
      · subst e; exact upd_eq
      · rw [upd_ne (by omega)]; exact j2 w (by omega)
    · rw [upd_ne (by omega)]; exact j3 j hj
  · intro x kk hJ
    obtain ⟨fc, dp, rfl, j0, j1, j2, j3⟩ := hJ
    dsimp only
    have L1 : Lay (wI h (51 + 22 * s) fc) := L
    refine Tr.pos (nI_le (b := 4) (Nat.le_refl _) (by decide)) (Tr.ck (Lso_46 L1 hs) (Tr.gp (Lsp_46_2 L1 hs) ?_))
    rw [gI_wI_ne (by omega), GT.1]
    refine Tr.ca (Lsa_49 L1 hs (by omega)) (Tr.gp (Lsp_46_3 L1.sI hs) ?_)
    rw [gI_sI_ne (by omega), gI_wI_ne (by omega), GT.1]
    refine Tr.ca (Lsa_50 L1.sI hs (by omega)) (Tr.nm (fun h2 e2 => Tr.ret ?_))
    rw [nI_clamp (by omega), nI_1] at e2
    have g6 : gI h2 (46 + 22 * s) 6 = nI (o + T.length) := by rw [e2, gI_sI_ne (by omega), gI_sI_ne (by omega), gI_wI_ne (by omega)]; exact GT.1
    have g46 : gI h2 (46 + 22 * s) = gI h (46 + 22 * s) := by rw [e2, gI_sI_ne (by omega), gI_sI_ne (by omega), gI_wI_ne (by omega)]
    have g49 : gI h2 (49 + 22 * s) = va_up (gI h (49 + 22 * s)) (o + T.length) (nI f) := by rw [e2, gI_sI_ne (by omega), gI_sI, gI_wI_ne (by omega)]
    have g50 : gI h2 (50 + 22 * s) = va_up (gI h (50 + 22 * s)) (o + T.length) (nI (dp + 1)) := by rw [e2, gI_sI, gI_sI_ne (by omega), gI_wI_ne (by omega)]
    have g51 : gI h2 (51 + 22 * s) = fc := by rw [e2, gI_sI_ne (by omega), gI_sI_ne (by omega), gI_wI]
    have g47 : gL h2 (47 + 22 * s) = gL h (47 + 22 * s) := by rw [e2]; rfl
    have g48 : gL h2 (48 + 22 * s) = gL h (48 + 22 * s) := by rw [e2]; rfl
    have F2 : Fr (qD s) h h2 := by rw [e2]; exact ((Fr.wI ⟨by omega, by omega⟩).tr (Fr.sI ⟨by omega, by omega⟩)).tr (Fr.sI ⟨by omega, by omega⟩)
    have g52 : gI h2 (52 + 22 * s) = gI h (52 + 22 * s) := by rw [e2, gI_sI_ne (by omega), gI_sI_ne (by omega), gI_wI_ne (by omega)]
    refine ⟨?_, ⟨?_, ?_, ?_⟩, ⟨?_, ?_⟩, ?_, F2.tr (Fr.sI ⟨by omega, by omega⟩), ?_⟩
    · rw [gI_sI, upd_eq, g6, nI_1, nI_pred]
    · rw [gI_sI, upd_ne (by decide), g46]; exact G.1
    · intro i x hx
      rw [gL_sI, gL_sI, g47, g48]; exact G.2.1 i x hx
    · intro i hi
      rw [gI_sI_ne (by omega), g50, upd_ne (by omega)]; exact G.2.2 i hi
    · rw [gI_sI, upd_eq, g6, nI_1, List.length_append]; rfl
    · intro k e hk
      have hlk := (List.getElem?_eq_some_iff.mp hk).1
      rw [List.length_append, List.length_singleton] at hlk
      rw [gI_sI_ne (by omega), gI_sI_ne (by omega), gI_sI_ne (by omega), g49, g50, g51, dps_snoc]
      by_cases ek : k = T.length
      · subst ek
        rw [List.getElem?_append_right (Nat.le_refl _), Nat.sub_self] at hk
        cases hk
        rw [upd_eq, upd_eq]
        refine ⟨rfl, fun v hv => by rw [j2 v hv, hch v hv], ?_⟩
        have e1 : (dps o T ++ [dpE o (dps o T) (tsk f b g)]).getD T.length 0 = dpE o (dps o T) (tsk f b g) := by
          rw [List.getD_eq_getElem?_getD, List.getElem?_append_right (by rw [dps_len]; omega), dps_len, Nat.sub_self]; rfl
        rw [e1]
        have e2 : mx4 (fun v => dpi o (dps o T) ((tsk f b g).2.getD v 0)) = mxF (fun v => dpi o (dps o T) (b (4 * g + v))) 4 := mxF_congr (fun v hv => by rw [hch v hv])
        unfold dpE
        rw [e2, j1]
      · rw [List.getElem?_append_left (by omega)] at hk
        obtain ⟨k1, k2, k3⟩ := GT.2 k e hk
        rw [upd_ne (by omega), upd_ne (by omega)]
        refine ⟨k1, fun v hv => by rw [j3 _ (by omega)]; exact k2 v hv, ?_⟩
        rw [k3, List.getD_eq_getElem?_getD, List.getD_eq_getElem?_getD, List.getElem?_append_left (by rw [dps_len]; omega)]
    · intro k e hk
      have hlk := (List.getElem?_eq_some_iff.mp hk).1
      rw [List.length_append, List.length_singleton] at hlk
      by_cases ek : k = T.length
      · subst ek
        rw [List.getElem?_append_right (Nat.le_refl _), Nat.sub_self] at hk
        cases hk
        exact ⟨hf, rfl, fun v hv => by rw [hch v hv]; exact (hb v hv).2⟩
      · rw [List.getElem?_append_left (by omega)] at hk
        exact ok k e hk
    · rw [gI_sI_ne (by omega), g52]
end X0

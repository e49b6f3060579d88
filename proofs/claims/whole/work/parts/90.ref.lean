/-! THE REFERENCE: the digest -/
def mD : Nat → Prop := fun a => a = 3 ∨ 123 ≤ a
theorem mD.of {h h1 : Hp} (F : Fr mA h h1) : Fr mD h h1 := F.wk (fun a x => Or.inr x)
theorem mA3 : ¬ mA 3 := by unfold mA; omega
/-- under way: the state stands, the hash is a -/
def DgI (h0 : Hp) (G : St) (a : Int64) (h : Hp) : Prop := MI h G ∧ Fr mD h0 h ∧ gL h 123 42 = a
section REF
variable {h h0 : Hp} {G : St} {a : Int64}
theorem DgI.mA (D : DgI h0 G a h) {h1 : Hp} (M : MI h1 G) (F : Fr mA h h1) : DgI h0 G a h1 := ⟨M, D.2.1.tr (mD.of F), by rw [F.hs mA3]; exact D.2.2⟩
theorem DgI.sL (D : DgI h0 G a h) (v : Int64) : DgI h0 G v (sL h 123 42 v) := by
  refine ⟨D.1, D.2.1.tr ?_, by rw [gL_sL, upd_eq]⟩
  rw [sL_w]
  exact ⟨rfl, rfl, rfl, fun _ _ => rfl, fun b hb => ⟨rfl, gL_wL_ne (fun e => hb (by rw [e]; exact Or.inr (by decide)))⟩, fun n => absurd (Or.inl rfl) n⟩
theorem X10_mix {ρ : Type} {Q : ρ → Hp → Prop} {k : Unit → Hp → Option (ρ × Hp)} (D : DgI h0 G a h) (v : Int64) (kk : ∀ h1, DgI h0 G (mx a v) h1 → (∀ b, gI h1 b = gI h b) → (∀ b, b ≠ 123 → gL h1 b = gL h b) → Tr (k () h1) Q) : Tr (ck h 123 10 (bd (f_X10_mix 123 v h) k)) Q := by
  refine Tr.ck (Lo_123 D.1.1) (Tr.be (r := ()) (h1 := sL h 123 42 (mx a v)) ?_ (kk _ (D.sL _) (fun b => rfl) (fun b hb => gL_sL_ne hb)))
  refine Tr.of_eq (Tr.ck (Lo_123 D.1.1) (Tr.ret ⟨rfl, ?_⟩))
  rw [D.2.2]
  rfl
theorem X10_qry {α ρ : Type} {Q : ρ → Hp → Prop} {v : α} {o : Option (α × Hp)} {k : α → Hp → Option (ρ × Hp)} (D : DgI h0 G a h) (t : Tr o (RQ h G v)) (kk : ∀ h1, DgI h0 G a h1 → Tr (k v h1) Q) : Tr (bd o k) Q :=
  Tr.bd t (fun r h1 q => by obtain ⟨rfl, M, F⟩ := q; exact kk h1 (D.mA M F))
/-- a row of the table -/
theorem X10_ms160 {RL : List (Int32 × Nat)} {n : Nat} {DL : List (Int64 × Int64)} (D : DgI h0 G a h) (B : TbM h RL n) (A : RfL h DL) (hl : RL.length ≤ 64) (hD : DL.length ≤ 128) {r : Nat} (hr : r < RL.length) (hlf : (RL.getD r (0, 0)).2 < DL.length) {k150 : (Int32 × Hp) → Option (Unit × Hp)} {Q : Unit → Hp → Prop}
    (kk : ∀ h1, DgI h0 G (dRow (lfR DL RL r) (RL.getD r (0, 0)).1 a) h1 → TbM h1 RL n → RfL h1 DL → Tr (k150 (nI (r + 1), h1)) Q) : Tr (loopN (fun k s => f_X10_mixSlot_160 k150 k 123 (nI r) s.1 s.2) 5000 ((0 : Int32), h)) Q := by
  have pres : ∀ {x y : Hp}, (∀ b, gI y b = gI x b) → (∀ b, b ≠ 123 → gL y b = gL x b) → TbM x RL n → RfL x DL → TbM y RL n ∧ RfL y DL := by
    intro x y e1 e2 b1 b2
    unfold TbM RfL
    rw [e1, e1, e1, e2 143 (by decide), e2 144 (by decide)]
    exact ⟨b1, b2⟩
  unfold dRow at kk
  generalize hd : (RL.getD r (0, 0)).1 = d at kk
  refine Tr.up (N := 3) (J := fun f (x : Int32 × Hp) => x.1 = nI f ∧ DgI h0 G (fo (fun f b => mx b (eF d f).toInt64) a f) x.2 ∧ TbM x.2 RL n ∧ RfL x.2 DL) ?_ ?_ (p := 0) ⟨rfl, D, B, A⟩ (Nat.zero_le _) (by omega)
  · intro f x kf hf hJ hf'
    obtain ⟨x1, h1⟩ := x
    obtain ⟨e, D1, B1, A1⟩ := hJ
    dsimp only at e D1 B1 A1
    subst e
    dsimp only
    have L1 := D1.1.1
    have b1 := (B1.2 r _ (gD_get RL (0, 0) hr)).1
    refine Tr.neg (nI_ge (b := 3) hf (by decide)) (Tr.ck (Lo_123 L1) (Tr.gp (Lp_123_37 L1) (Tr.ca (La_149 L1 (by omega)) ?_)))
    rw [nI_clamp (by omega), b1, hd]
    refine Tr.be (X10_demandOf d hf h1) (X10_mix D1 _ (fun h2 D2 g1 g2 => Tr.nmx (hf' _ ⟨nI_1 f, D2, pres g1 g2 B1 A1⟩)))
  · intro x kf hJ
    obtain ⟨x1, h1⟩ := x
    obtain ⟨e, D1, B1, A1⟩ := hJ
    dsimp only at e D1 B1 A1
    subst e
    dsimp only
    refine Tr.pos (nI_le (b := 3) (Nat.le_refl _) (by decide)) ?_
    generalize fo (fun f b => mx b (eF d f).toInt64) a 3 = ac at D1 kk
    refine Tr.up (N := 125) (J := fun v (x : Int32 × Hp) => x.1 = nI v ∧ DgI h0 G (fo (fun v b => if hA (lfR DL RL r) v then mx b (nI v).toInt64 else b) ac v) x.2 ∧ TbM x.2 RL n ∧ RfL x.2 DL) ?_ ?_ (p := 0) ⟨rfl, D1, B1, A1⟩ (Nat.zero_le _) (by omega)
    · intro v x kv hv hJ hv'
      obtain ⟨x1, h2⟩ := x
      obtain ⟨e, D2, B2, A2⟩ := hJ
      dsimp only at e D2 B2 A2
      subst e
      dsimp only
      have L2 := D2.1.1
      have es : ∀ b, fo (fun v b => if hA (lfR DL RL r) v then mx b (nI v).toInt64 else b) b (v + 1) = if hA (lfR DL RL r) v then mx (fo (fun v b => if hA (lfR DL RL r) v then mx b (nI v).toInt64 else b) b v) (nI v).toInt64 else fo (fun v b => if hA (lfR DL RL r) v then mx b (nI v).toInt64 else b) b v := fun b => rfl
      rw [es] at hv'
      generalize fo (fun v b => if hA (lfR DL RL r) v then mx b (nI v).toInt64 else b) ac v = ac2 at D2 hv'
      refine Tr.neg (nI_ge (b := 125) hv (by decide)) (Tr.ck (Lo_123 L2) (Tr.be (X10_hasAction L2 B2 A2 hl hD hr hlf hv) ?_))
      cases c : hA (lfR DL RL r) v with
      | false =>
        rw [c] at hv'
        exact Tr.pos rfl (Tr.nmx (hv' _ ⟨nI_1 v, D2, B2, A2⟩))
      | true =>
        rw [c] at hv'
        exact Tr.neg (by decide) (X10_mix D2 _ (fun h3 D3 g1 g2 => Tr.nmx (hv' _ ⟨nI_1 v, D3, pres g1 g2 B2 A2⟩)))
    · intro x kv hJ
      obtain ⟨x1, h2⟩ := x
      obtain ⟨e, D2, B2, A2⟩ := hJ
      dsimp only at e D2 B2 A2
      subst e
      dsimp only
      refine Tr.pos (nI_le (b := 125) (Nat.le_refl _) (by decide)) (Tr.nmx ?_)
      rw [nI_1]
      exact kk h2 D2 B2 A2
theorem X10_ms150 {l : List Nat} (D : DgI h0 G a h) (B : TbM h (tR l) (tN l)) (A : RfL h (lD l)) : Tr (loopN (fun k s => f_X10_mixSlot_150 k 123 s.1 s.2) 5000 ((0 : Int32), h)) (fun _ h1 => DgI h0 G (fo (fun k b => dRow (lfR (lD l) (tR l) k) ((tR l).getD k (0, 0)).1 b) a (tN l)) h1) := by
  have n1 := tN_le l
  have n2 := tR_len l
  have nd : (lD l).length ≤ 64 := dL_len _
  have hlf := fun k (hk : k < tN l) => lf_lt l hk
  generalize tR l = RL at B n1 n2 hlf ⊢
  generalize tN l = n at B n1 hlf ⊢
  generalize lD l = DL at A nd hlf ⊢
  refine Tr.up (N := n) (J := fun k (x : Int32 × Hp) => x.1 = nI k ∧ DgI h0 G (fo (fun k b => dRow (lfR DL RL k) (RL.getD k (0, 0)).1 b) a k) x.2 ∧ TbM x.2 RL n ∧ RfL x.2 DL) ?_ ?_ (p := 0) ⟨rfl, D, B, A⟩ (Nat.zero_le _) (by omega)
  · intro k x kk hk hJ hk'
    obtain ⟨x1, h1⟩ := x
    obtain ⟨e, D1, B1, A1⟩ := hJ
    dsimp only at e D1 B1 A1
    subst e
    dsimp only
    have es : fo (fun k b => dRow (lfR DL RL k) (RL.getD k (0, 0)).1 b) a (k + 1) = dRow (lfR DL RL k) (RL.getD k (0, 0)).1 (fo (fun k b => dRow (lfR DL RL k) (RL.getD k (0, 0)).1 b) a k) := rfl
    rw [es] at hk'
    generalize fo (fun k b => dRow (lfR DL RL k) (RL.getD k (0, 0)).1 b) a k = ac at D1 hk'
    refine Tr.ck (Lo_123 D1.1.1) ?_
    rw [B1.1]
    exact Tr.neg (nI_ge hk (by omega)) (X10_ms160 D1 B1 A1 n2 (by omega) (by omega) (hlf k hk) (fun h2 D2 B2 A2 => hk' _ ⟨rfl, D2, B2, A2⟩))
  · intro x kk hJ
    obtain ⟨x1, h1⟩ := x
    obtain ⟨e, D1, B1, A1⟩ := hJ
    dsimp only at e D1 B1 A1
    subst e
    dsimp only
    refine Tr.ck (Lo_123 D1.1.1) ?_
    rw [B1.1]
    exact Tr.pos (nI_le (Nat.le_refl _) (by omega)) (Tr.ret D1)
theorem X10_mixSlot (D : DgI h0 G a h) {s : Nat} (hs : s < 4) : Tr (f_X10_mixSlot 123 (nI s) h) (fun _ h1 => DgI h0 G (dSlot (G.2.2.1 s) a) h1) := by
  have L := D.1.1
  have ml := (D.1.slot hs).2.1
  have hlen : (prS (G.2.2.1 s)).length ≤ 358 := prS_len (D.1.slot hs).1
  unfold dSlot dTab
  generalize hl : G.2.2.1 s = l at ml hlen
  refine Tr.ck (Lo_123 L) (Tr.gp (Lp_123_0 L) (Tr.ca (La_124 L (by omega)) ?_))
  rw [nI_clamp (by omega), ml]
  have mix0 := fun (Q : Unit → Hp → Prop) (k : Unit → Hp → Option (Unit × Hp)) (kk : ∀ h1, DgI h0 G (mx a (nI l.length).toInt64) h1 → Tr (k () h1) Q) => X10_mix (Q := Q) (k := k) D (nI l.length).toInt64 (fun h1 D1 _ _ => kk h1 D1)
  have e0 : f_X10_mix 123 (nI l.length).toInt64 h = some ((), sL h 123 42 (mx a (nI l.length).toInt64)) := by
    refine Tr.of_eq (Tr.ck (Lo_123 L) (Tr.ret ⟨rfl, ?_⟩))
    rw [D.2.2]; rfl
  refine Tr.be e0 ?_
  have D1 := D.sL (mx a (nI l.length).toInt64)
  generalize sL h 123 42 (mx a (nI l.length).toInt64) = h1 at D1
  refine Tr.ck (Lo_123 D1.1.1) (Tr.bd (X10_prints D1.1 hs) (fun _ h2 q => ?_))
  obtain ⟨S2, M2, F2⟩ := q
  have D2 := D1.mA M2 F2
  rw [hl] at S2
  refine Tr.up (N := (prS l).length) (J := fun i (x : Int32 × Hp) => x.1 = nI i ∧ DgI h0 G (fo (fun i b => mx b (nI ((prS l).getD i 0)).toInt64) (mx a (nI l.length).toInt64) i) x.2 ∧ ShS x.2 (prS l)) ?_ ?_ (p := 0) ⟨rfl, D2, S2⟩ (Nat.zero_le _) (by omega)
  · intro i x kk hi hJ hk'
    obtain ⟨x1, h3⟩ := x
    obtain ⟨e, D3, S3⟩ := hJ
    dsimp only at e D3 S3
    subst e
    dsimp only
    have L3 := D3.1.1
    have S4 := S3
    obtain ⟨s1, s2⟩ := S3
    refine Tr.ck (Lo_123 L3) ?_
    rw [s1]
    refine Tr.neg (nI_ge hi (by omega)) (Tr.gp (Lp_123_22 L3) (Tr.ca (La_138 L3 (by omega)) ?_))
    rw [nI_clamp (by omega), s2 i hi]
    have e3 : ∀ v, f_X10_mix 123 v h3 = some ((), sL h3 123 42 (mx (fo (fun i b => mx b (nI ((prS l).getD i 0)).toInt64) (mx a (nI l.length).toInt64) i) v)) := fun v => by
      refine Tr.of_eq (Tr.ck (Lo_123 L3) (Tr.ret ⟨rfl, ?_⟩))
      rw [D3.2.2]; rfl
    exact Tr.be (e3 _) (Tr.nmx (hk' _ ⟨nI_1 i, D3.sL _, S4⟩))
  · intro x kk hJ
    obtain ⟨x1, h3⟩ := x
    obtain ⟨e, D3, S3⟩ := hJ
    dsimp only at e D3 S3
    subst e
    dsimp only
    refine Tr.ck (Lo_123 D3.1.1) ?_
    rw [S3.1]
    refine Tr.pos (nI_le (Nat.le_refl _) (by omega)) ?_
    generalize fo (fun i b => mx b (nI ((prS l).getD i 0)).toInt64) (mx a (nI l.length).toInt64) (prS l).length = ac at D3
    subst hl
    refine X10_qry D3 (X10_outputsOf D3.1 hs (p := 0) (by decide)) (fun h4 D4 => X10_mix D4 _ (fun h5 D5 _ _ => Tr.ck (Lo_123 D5.1.1) ?_))
    refine X10_qry D5 (X10_outputsOf D5.1 hs (p := 27) (by decide)) (fun h4 D4 => X10_mix D4 _ (fun h5 D5 _ _ => Tr.ck (Lo_123 D5.1.1) ?_))
    refine X10_qry D5 (X10_outputsOf D5.1 hs (p := 63) (by decide)) (fun h4 D4 => X10_mix D4 _ (fun h5 D5 _ _ => Tr.ck (Lo_123 D5.1.1) ?_))
    refine X10_qry D5 (X10_acceptedOf D5.1 hs) (fun h4 D4 => X10_mix D4 _ (fun h5 D5 _ _ => Tr.ck (Lo_123 D5.1.1) ?_))
    refine X10_qry D5 (X10_spreadOf D5.1 hs) (fun h4 D4 => X10_mix D4 _ (fun h5 D5 _ _ => Tr.ck (Lo_123 D5.1.1) ?_))
    refine X10_qry D5 (X10_roundsOf D5.1 hs) (fun h4 D4 => X10_mix D4 _ (fun h5 D5 _ _ => Tr.ck (Lo_123 D5.1.1) ?_))
    refine X10_qry D5 (X10_sizeOf D5.1 hs) (fun h4 D4 => X10_mix D4 _ (fun h5 D5 _ _ => Tr.ck (Lo_123 D5.1.1) ?_))
    refine X10_qry D5 (X10_leavesOf D5.1 hs) (fun h4 D4 => X10_mix D4 _ (fun h5 D5 _ _ => Tr.ck (Lo_123 D5.1.1) ?_))
    refine X10_qry D5 (X10_depthOf D5.1 hs) (fun h4 D4 => X10_mix D4 _ (fun h5 D5 _ _ => Tr.ck (Lo_123 D5.1.1) ?_))
    refine Tr.bd (X10_tabulates D5.1 hs) (fun _ h6 q => ?_)
    obtain ⟨B6, A6, M6, F6⟩ := q
    have D6 := D5.mA M6 F6
    have g6 := B6.1
    refine Tr.imp (e := _) ?_ (fun _ h1 q => q)
    rw [g6]
    refine X10_mix D6 _ (fun h7 D7 g1 g2 => ?_)
    have B7 : TbM h7 (tR (G.2.2.1 s)) (tN (G.2.2.1 s)) := by unfold TbM; rw [g1, g1, g1]; exact B6
    have A7 : RfL h7 (lD (G.2.2.1 s)) := by unfold RfL; rw [g1, g2 143 (by decide), g2 144 (by decide)]; exact A6
    exact X10_ms150 D7 B7 A7
theorem X10_dg60 (D : DgI h0 G a h) : Tr (loopN (fun k s => f_X10_digest_60 k 123 s.1 s.2) 5000 ((0 : Int32), h)) (fun r h1 => r = mx (dPairs G.2.2.1 a) (nI G.2.2.2.2.length).toInt64 ∧ MI h1 G ∧ Fr mD h0 h1) := by
  unfold dPairs
  generalize hE : (fun (i : Nat) (b : Int64) => fo (fun j b => if i < j then mx (mx b (ordN (evI (G.2.2.1 i)) (evI (G.2.2.1 j))).toInt64) (witN (evI (G.2.2.1 i)) (evI (G.2.2.1 j))).toInt64 else b) b 4) = E
  refine Tr.up (N := 4) (J := fun i (x : Int32 × Hp) => x.1 = nI i ∧ DgI h0 G (fo E a i) x.2) ?_ ?_ (p := 0) ⟨rfl, D⟩ (Nat.zero_le _) (by omega)
  · intro i x kk hi hJ hk'
    obtain ⟨x1, h1⟩ := x
    obtain ⟨e, D1⟩ := hJ
    dsimp only at e D1
    subst e
    dsimp only
    have e0 : fo E a (i + 1) = fo (fun j b => if i < j then mx (mx b (ordN (evI (G.2.2.1 i)) (evI (G.2.2.1 j))).toInt64) (witN (evI (G.2.2.1 i)) (evI (G.2.2.1 j))).toInt64 else b) (fo E a i) 4 := by rw [← hE]; rfl
    rw [e0] at hk'
    generalize fo E a i = acc at D1 hk'
    refine Tr.neg (nI_ge (b := 4) hi (by decide)) (Tr.nmx ?_)
    rw [nI_1]
    refine Tr.up (N := 4) (J := fun j (x : Int32 × Hp) => x.1 = nI j ∧ DgI h0 G (fo (fun j b => if i < j then mx (mx b (ordN (evI (G.2.2.1 i)) (evI (G.2.2.1 j))).toInt64) (witN (evI (G.2.2.1 i)) (evI (G.2.2.1 j))).toInt64 else b) acc j) x.2 ∧ i < j) ?_ ?_ (p := i + 1) ⟨rfl, by rw [fo_skip (f := fun j b => mx (mx b (ordN (evI (G.2.2.1 i)) (evI (G.2.2.1 j))).toInt64) (witN (evI (G.2.2.1 i)) (evI (G.2.2.1 j))).toInt64) (i + 1) (Nat.le_refl _)]; exact D1, by omega⟩ (by omega) (by omega)
    · intro j x kj hj hJ hj'
      obtain ⟨x1, h2⟩ := x
      obtain ⟨e, D2, hij⟩ := hJ
      dsimp only at e D2 hij
      subst e
      dsimp only
      have e1 : fo (fun j b => if i < j then mx (mx b (ordN (evI (G.2.2.1 i)) (evI (G.2.2.1 j))).toInt64) (witN (evI (G.2.2.1 i)) (evI (G.2.2.1 j))).toInt64 else b) acc (j + 1) = mx (mx (fo (fun j b => if i < j then mx (mx b (ordN (evI (G.2.2.1 i)) (evI (G.2.2.1 j))).toInt64) (witN (evI (G.2.2.1 i)) (evI (G.2.2.1 j))).toInt64 else b) acc j) (ordN (evI (G.2.2.1 i)) (evI (G.2.2.1 j))).toInt64) (witN (evI (G.2.2.1 i)) (evI (G.2.2.1 j))).toInt64 := by
        show (if i < j then _ else _) = _
        rw [if_pos hij]
      rw [e1] at hj'
      generalize fo _ acc j = ac2 at D2 hj'
      refine Tr.neg (nI_ge (b := 4) hj (by decide)) (Tr.ck (Lo_123 D2.1.1) ?_)
      refine X10_qry D2 (X10_compared D2.1 hi hj) (fun h4 D4 => X10_mix D4 _ (fun h5 D5 _ _ => Tr.ck (Lo_123 D5.1.1) ?_))
      refine X10_qry D5 (Tr.imp (X10_witnessOf D5.1 hi hj) (fun r h q => ⟨q.1, q.2.2.1, q.2.2.2⟩)) (fun h4 D4 => X10_mix D4 _ (fun h5 D5 _ _ => Tr.nmx (hj' _ ⟨nI_1 j, D5, by omega⟩)))
    · intro x kj hJ
      obtain ⟨x1, h2⟩ := x
      obtain ⟨e, D2, hij⟩ := hJ
      dsimp only at e D2 hij
      subst e
      dsimp only
      exact Tr.pos (nI_le (b := 4) (Nat.le_refl _) (by decide)) (Tr.nmx (hk' _ ⟨nI_1 i, D2⟩))
  · intro x kk hJ
    obtain ⟨x1, h1⟩ := x
    obtain ⟨e, D1⟩ := hJ
    dsimp only at e D1
    subst e
    dsimp only
    have m8 := D1.1.2.2.2.2.2.2.2.1
    refine Tr.pos (nI_le (b := 4) (Nat.le_refl _) (by decide)) ?_
    rw [m8]
    refine X10_mix D1 _ (fun h2 D2 _ _ => Tr.ck (Lo_123 D2.1.1) (Tr.ret ⟨D2.2.2, D2.1, D2.2.1⟩))
def MD {α : Type} (h : Hp) (a : α × St) : α → Hp → Prop := fun r h1 => r = a.1 ∧ MI h1 a.2 ∧ Fr mD h h1
theorem X10_digest (M : MI h G) : Tr (f_X10_digest 123 h) (MD h (digF G, G)) := by
  have D0 : DgI h G (gL h 123 42) h := ⟨M, Fr.rf, rfl⟩
  have D1 := D0.sL 2729
  refine Tr.ck (Lo_123 M.1) ?_
  generalize sL h 123 42 2729 = h1 at D1
  refine Tr.up (N := 5) (J := fun e (x : Int32 × Hp) => x.1 = nI e ∧ DgI h G (fo (fun e b => mx b (G.2.2.2.1 e).toInt64) 2729 e) x.2) ?_ ?_ (p := 0) ⟨rfl, D1⟩ (Nat.zero_le _) (by omega)
  · intro e x kk he hJ hk'
    obtain ⟨x1, h2⟩ := x
    obtain ⟨ex, D2⟩ := hJ
    dsimp only at ex D2
    subst ex
    dsimp only
    have L2 := D2.1.1
    have m6 := D2.1.2.2.2.2.2.1 e he
    refine Tr.neg (nI_ge (b := 5) he (by decide)) (Tr.ck (Lo_123 L2) (Tr.gp (Lp_123_3 L2) (Tr.ca (La_126 L2 he) ?_)))
    rw [nI_clamp (by omega), m6]
    have e3 : ∀ v, f_X10_mix 123 v h2 = some ((), sL h2 123 42 (mx (fo (fun e b => mx b (G.2.2.2.1 e).toInt64) 2729 e) v)) := fun v => by
      refine Tr.of_eq (Tr.ck (Lo_123 L2) (Tr.ret ⟨rfl, ?_⟩))
      rw [D2.2.2]; rfl
    exact Tr.be (e3 _) (Tr.nmx (hk' _ ⟨nI_1 e, D2.sL _⟩))
  · intro x kk hJ
    obtain ⟨x1, h2⟩ := x
    obtain ⟨ex, D2⟩ := hJ
    dsimp only at ex D2
    subst ex
    dsimp only
    have m3 := D2.1.2.2.1
    refine Tr.pos (nI_le (b := 5) (Nat.le_refl _) (by decide)) ?_
    rw [m3]
    refine X10_mix D2 _ (fun h3 D3 _ _ => ?_)
    unfold digF
    generalize mx (fo (fun e b => mx b (G.2.2.2.1 e).toInt64) 2729 5) (nI G.1).toInt64 = ac at D3
    generalize hE : (fun (s : Nat) (b : Int64) => dSlot (G.2.2.1 s) b) = E
    have hEe : ∀ s b, dSlot (G.2.2.1 s) b = E s b := fun s b => by rw [← hE]
    refine Tr.up (N := 4) (J := fun s (x : Int32 × Hp) => x.1 = nI s ∧ DgI h G (fo E ac s) x.2) ?_ ?_ (p := 0) ⟨rfl, D3⟩ (Nat.zero_le _) (by omega)
    · intro s x k2 hs hJ hs'
      obtain ⟨x1, h4⟩ := x
      obtain ⟨ex, D4⟩ := hJ
      dsimp only at ex D4
      subst ex
      dsimp only
      refine Tr.neg (nI_ge (b := 4) hs (by decide)) (Tr.ck (Lo_123 D4.1.1) (Tr.bd (X10_mixSlot D4 hs) (fun _ h5 D5 => Tr.nmx ?_)))
      rw [hEe] at D5
      exact hs' _ ⟨nI_1 s, D5⟩
    · intro x k2 hJ
      obtain ⟨x1, h4⟩ := x
      obtain ⟨ex, D4⟩ := hJ
      dsimp only at ex D4
      subst ex
      dsimp only
      exact Tr.pos (nI_le (b := 4) (Nat.le_refl _) (by decide)) (Tr.imp (X10_dg60 D4) (fun r h5 q => q))
/-- one call on both, the reference's hash apart -/
theorem bothD {α : Type} {a : α × St} {e1 : Option (α × Hp)} {e2 : Hp → Option (α × Hp)} {Q : Int32 → Hp → Prop} {k : α → α → Hp → Option (Int32 × Hp)} (C : CI h G) (M : MI h G) (t1 : Tr e1 (CP h a)) (t2 : ∀ h1, MI h1 G → Tr (e2 h1) (MD h1 a)) (kk : ∀ h2, CI h2 a.2 → MI h2 a.2 → Fr (fun a => 1 ≤ a) h h2 → Tr (k a.1 a.1 h2) Q) : Tr (bd e1 fun v h1 => bd (e2 h1) fun w h2 => k v w h2) Q := by
  refine Tr.bd t1 (fun v h1 q => ?_)
  obtain ⟨rfl, C1, F1⟩ := q
  have M1 : MI h1 G := M.fr F1 (fun a x y => by have : 1 ≤ a ∧ a ≤ 122 := y; omega)
  refine Tr.bd (t2 h1 M1) (fun w h2 q => ?_)
  obtain ⟨rfl, M2, F2⟩ := q
  have C2 : CI h2 a.2 := C1.fr F2 (fun a x z y => by unfold mD at y; omega)
  exact kk h2 C2 M2 ((F1.wk (fun a x => x.1)).tr (F2.wk (fun a x => by unfold mD at x; omega)))
end REF

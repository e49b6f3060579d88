/-! THE REFERENCE'S PARSER: reading, and the call -/
def RmQ (h0 : Hp) (G : St) (R : Nat ⊕ List Nat) : Int32 → Hp → Prop := fun r h1 => (∃ e, R = Sum.inl e ∧ r = nI e ∧ e < 2 ^ 31 ∧ MI h1 G ∧ Fr mA h0 h1) ∨ ∃ l, R = Sum.inr l ∧ r = -1 ∧ MkR h1 l ∧ Pre l 1 ∧ l.length < 6000 ∧ MI h1 G ∧ Fr mA h0 h1
section REF
variable {h h0 : Hp} {G : St}
theorem X10_rd59 (hn : G.1 ≤ 150) (I : MpI h0 G [] [] [] [] 0 h) (e16 : gI h 123 16 = 1) : Tr (loopN (fun k s => f_X10_reads_59 k 123 s.1 s.2) 5000 ((-1 : Int32), h)) (RmQ h0 G (Pq G 0 q0)) := by
  generalize hR : Pq G 0 q0 = R
  refine Tr.loop (I := fun m (x : Int32 × Hp) => (x.1 = -1 ∧ gI x.2 123 16 = 1 ∧ ∃ i l F g, m = G.1 - i + 1 ∧ i ≤ G.1 ∧ PV i ((l, F), 0, 0, 0) ∧ BgR F g ∧ MpI h0 G l F (sB l) g i x.2 ∧ R = Pq G i ((l, F), 0, 0, 0)) ∨ (x.1 = -1 ∧ gI x.2 123 16 = 2 ∧ ∃ i s, m = G.1 - i + 1 ∧ i ≤ G.1 ∧ CV (31 * i + 30) i s ∧ BS h0 G i s x.2 ∧ R = Pq G i (s, 3, 0, 0)) ∨ (m = 0 ∧ ((∃ e, R = Sum.inl e ∧ x.1 = nI e ∧ e < 2 ^ 31 ∧ MI x.2 G ∧ Fr mA h0 x.2) ∨ (x.1 = -1 ∧ gI x.2 123 16 = 0 ∧ ∃ l, R = Sum.inr l ∧ MkR x.2 l ∧ Pre l 1 ∧ l.length < 6000 ∧ MI x.2 G ∧ Fr mA h0 x.2)))) ?_ 5000 (G.1 - 0 + 1) _ (Or.inl ⟨rfl, e16, 0, [], [], [], rfl, Nat.zero_le _, PV_0, rfl, I, hR.symm⟩) (by omega)
  intro m x k hI hk'
  obtain ⟨x1, h1⟩ := x
  dsimp only at hI ⊢
  rcases hI with ⟨e1, g16, i, l, F, g, em, hi, V, hb, I, eR⟩ | ⟨e1, g16, i, s, em, hi, V, I, eR⟩ | ⟨em, hI⟩
  · subst e1 em
    have L := I.1.1
    refine Tr.ck (Lo_123 L) ?_
    rw [g16]
    refine Tr.neg (by decide) (Tr.pos rfl (Tr.pos rfl ?_))
    have at1 := X10_atom (h0 := h0) hn hi V I hb
    rw [← eR] at at1
    refine Tr.bd at1 (fun r h2 q => ?_)
    rcases q with ⟨e, a, b, c, d, f⟩ | ⟨j, s, a, b, c, d, f, eR2⟩
    · subst b
      refine Tr.ck (Lo_123 d.1) (hk' 0 _ (by omega) (Or.inr (Or.inr ⟨rfl, Or.inl ⟨e, a, rfl, c, ?_, ?_⟩⟩)))
      · exact d.wk (Fr.sI (Or.inl rfl)) (by rw [gI_sI, upd_ne (by decide)]) (by rw [gI_sI, upd_ne (by decide)])
      · exact f.tr (Fr.sI (show mA 123 by unfold mA; omega))
    · subst d
      obtain ⟨Bg, b1, I2⟩ := f
      refine Tr.ck (Lo_123 I2.1.1) (hk' (G.1 - j + 1) _ (by omega) (Or.inr (Or.inl ⟨rfl, by rw [gI_sI, upd_eq], j, s, rfl, b, c, ⟨Bg, b1, I2.stage 2⟩, eR2⟩)))
  · subst e1 em
    obtain ⟨l, F⟩ := s
    have L : Lay h1 := by obtain ⟨_, _, I1⟩ := I; exact I1.1.1
    refine Tr.ck (Lo_123 L) ?_
    rw [g16]
    refine Tr.neg (by decide) (Tr.pos rfl (Tr.neg (by decide) ?_))
    have ef := X10_endsFactor hn V hi I
    rw [← eR] at ef
    refine Tr.bd ef (fun r h2 q => ?_)
    rcases q with ⟨e, a, b, c, d, f⟩ | ⟨j, s, a, b, c, c3, d, I2, st, eR2⟩
    · subst b
      exact Tr.neg (no_m1 c) (hk' 0 _ (by omega) (Or.inr (Or.inr ⟨rfl, Or.inl ⟨e, a, rfl, c, d, f⟩⟩)))
    · subst d
      have L2 : Lay h2 := by obtain ⟨_, _, I1⟩ := I2; exact I1.1.1
      refine Tr.pos rfl (Tr.ck (Lo_123 L2) (Tr.bd (X10_behind hn b (Nat.le_refl j) c c3 I2 eR2) (fun r h3 q => ?_)))
      rcases q with ⟨e, a, b, c, d, f⟩ | ⟨er, ⟨g0, l2, z1, z2, z3, z4, z5, z6⟩ | ⟨g1, j2, l2, F2, g2, z1, z2, z3, z4, z5, z6⟩ | ⟨g2, j2, s2, z1, z2, z3, z4, z5⟩⟩
      · subst b
        exact hk' 0 _ (by omega) (Or.inr (Or.inr ⟨rfl, Or.inl ⟨e, a, rfl, c, d, f⟩⟩))
      · exact hk' 0 _ (by omega) (Or.inr (Or.inr ⟨rfl, Or.inr ⟨er, g0, l2, z1, z2, z3, z4, z5, z6⟩⟩))
      · exact hk' (G.1 - j2 + 1) _ (by omega) (Or.inl ⟨er, g1, j2, l2, F2, g2, rfl, z2, z3, z4, z5, z6⟩)
      · exact hk' (G.1 - j2 + 1) _ (by omega) (Or.inr (Or.inl ⟨er, g2, j2, s2, rfl, z2, z3, z4, z5⟩))
  · rcases hI with ⟨e, a, b, c, d, f⟩ | ⟨a, g0, l, z1, z2, z3, z4, z5, z6⟩
    · subst b
      have fin : Tr (some (nI e, h1)) (RmQ h0 G R) := Tr.ret (Or.inl ⟨e, a, rfl, c, d, f⟩)
      exact Tr.ck (Lo_123 d.1) (Tr.cs (fun _ => fin) (fun _ => Tr.neg (no_m1 c) fin))
    · subst a
      refine Tr.ck (Lo_123 z5.1) ?_
      rw [g0]
      exact Tr.pos (by decide) (Tr.ret (Or.inr ⟨l, z1, rfl, z2, z3, z4, z5, z6⟩))
theorem X10_reads (M : MI h G) : Tr (f_X10_reads 123 h) (RmQ h G (Pq G 0 q0)) := by
  have hn := M.2.2.2.1
  refine Tr.up (N := 4) (J := fun s (x : Int32 × Hp) => x.1 = nI s ∧ MI x.2 G ∧ Fr mA h x.2 ∧ ∀ t, t < s → gI x.2 133 t = bi (prd (G.2.2.1 t))) ?_ ?_ (p := 0) ⟨rfl, M, Fr.rf, fun t ht => absurd ht (Nat.not_lt_zero _)⟩ (Nat.zero_le _) (by omega)
  · intro s x kk hs hJ hk'
    obtain ⟨x1, h1⟩ := x
    obtain ⟨e, M1, F1, S1⟩ := hJ
    dsimp only at e M1 F1 S1
    subst e
    dsimp only
    refine Tr.neg (nI_ge (b := 4) hs (by decide)) (Tr.ck (Lo_123 M1.1) (Tr.gp (Lp_123_15 M1.1) (Tr.bd (X10_isPredicateRowW M1 hs) (fun r h2 q => ?_))))
    obtain ⟨er, M2, F2⟩ := q
    have g133 : gI h2 133 = gI h1 133 := F2.I (fun z => by unfold pW at z; omega)
    have F2m : Fr mA h1 h2 := F2.wk (fun a x => by unfold pW at x; unfold mA; omega)
    have go : ∀ b, b = prd (G.2.2.1 s) → Tr (kk (nI s + 1, sI h2 133 s (bi b))) (RmQ h G (Pq G 0 q0)) := fun b eb => by
      rw [nI_1]
      refine hk' _ ⟨rfl, ?_, (F1.tr F2m).tr (Fr.sI (show mA 133 by unfold mA; omega)), fun t ht => ?_⟩
      · exact M2.wk (Fr.sI (Or.inr (show mW 133 by unfold mW; omega))) (by dsimp only; rw [gI_sI_ne (by decide)]) (by dsimp only; rw [gI_sI_ne (by decide)])
      · dsimp only
        rw [gI_sI]
        by_cases c : t = s
        · rw [c, upd_eq, eb]
        · rw [upd_ne c, g133]; exact S1 t (by omega)
    rw [er]
    cases hp : prd (G.2.2.1 s) with
    | false =>
      refine Tr.pos rfl (Tr.ca (La_133 M2.1 hs) (Tr.nmx ?_))
      rw [nI_clamp (by omega)]
      exact go false hp.symm
    | true =>
      refine Tr.neg (by decide) (Tr.ca (La_133 M2.1 hs) (Tr.nmx ?_))
      rw [nI_clamp (by omega)]
      exact go true hp.symm
  · intro x kk hJ
    obtain ⟨x1, h1⟩ := x
    obtain ⟨e, M1, F1, S1⟩ := hJ
    dsimp only at e M1 F1 S1
    subst e
    dsimp only
    refine Tr.pos (nI_le (b := 4) (Nat.le_refl _) (by decide)) (Tr.ck (Lo_123 M1.1) (Tr.nm (fun h3 e3 => ?_)))
    have eq : ∀ k, k ≠ 7 → k ≠ 10 → k ≠ 14 → k ≠ 11 → k ≠ 16 → gI (sI (sI h3 123 11 0) 123 16 1) 123 k = gI h1 123 k := fun k a b c d f => by
      rw [gI_sI, upd_ne f, gI_sI, upd_ne d, e3, gI_sI, upd_ne c, gI_sI, upd_ne b, gI_sI, upd_ne a]
    have nn : ∀ a, a ≠ 123 → gI (sI (sI h3 123 11 0) 123 16 1) a = gI h1 a := fun a ha => by
      rw [gI_sI_ne ha, gI_sI_ne ha, e3, gI_sI_ne ha, gI_sI_ne ha, gI_sI_ne ha]
    have F3 : Fr (fun a => a = 123) h1 (sI (sI h3 123 11 0) 123 16 1) := by
      have z : Fr (fun a => a = 123) h1 h3 := by rw [e3]; exact ((Fr.sI (A := fun a => a = 123) rfl).tr (Fr.sI (A := fun a => a = 123) rfl)).tr (Fr.sI (A := fun a => a = 123) rfl)
      exact (z.tr (Fr.sI (A := fun a => a = 123) rfl)).tr (Fr.sI (A := fun a => a = 123) rfl)
    have I : MpI h G [] [] [] [] 0 (sI (sI h3 123 11 0) 123 16 1) := by
      refine ⟨M1.wk (F3.wk (fun a x => Or.inl x)) (eq 2 (by decide) (by decide) (by decide) (by decide) (by decide)) (eq 5 (by decide) (by decide) (by decide) (by decide) (by decide)), F1.tr (F3.wk (fun a x => by unfold mA; omega)), ⟨⟨?_, fun i hi => absurd hi (Nat.not_lt_zero _)⟩, ⟨?_, trivial⟩, trivial, ?_, trivial, trivial⟩, ?_, fun t ht => by rw [nn 133 (by decide)]; exact S1 t ht⟩
      · rw [gI_sI, upd_ne (by decide), gI_sI, upd_ne (by decide), e3, gI_sI, upd_ne (by decide), gI_sI, upd_ne (by decide), gI_sI, upd_eq]; rfl
      · rw [gI_sI, upd_ne (by decide), gI_sI, upd_ne (by decide), e3, gI_sI, upd_ne (by decide), gI_sI, upd_eq]; rfl
      · rw [gI_sI, upd_ne (by decide), gI_sI, upd_ne (by decide), e3, gI_sI, upd_eq]; rfl
      · rw [gI_sI, upd_ne (by decide), gI_sI, upd_eq]; rfl
    exact X10_rd59 hn I (by rw [gI_sI, upd_eq])
theorem X10_parse (M : MI h G) (x : Int32) : Tr (f_X10_parse 123 x h) (MP h (aParse G x)) := by
  unfold aParse
  refine X10_os x (fun e => ?_) (fun t ht e e2 => ?_)
  · rw [e]; exact X10_fl M (by decide) (by decide)
  · rw [e2, e]
    dsimp only
    have ep : prn G.2.2.1 G.2.1 G.1 G.1 q0 = Pq G 0 q0 := rfl
    rw [ep]
    refine Tr.ck (Lo_123 M.1) (Tr.bd (X10_reads M) (fun r h1 q => ?_))
    rcases q with ⟨er, a, b, c, M1, F1⟩ | ⟨l, a, b, K, Pl, hl, M1, F1⟩
    · subst b
      rw [a]
      exact Tr.neg (no_m1 c) (Tr.ret ⟨rfl, M1, F1⟩)
    · subst b
      rw [a]
      dsimp only
      refine Tr.pos rfl (Tr.ck (Lo_123 M1.1) ?_)
      rw [K.1]
      unfold aStore
      by_cases c : l.length ≤ 60
      · rw [if_pos c]
        exact Tr.pos (nI_le (b := 60) c (by decide)) (Tr.bd (X10_keeps M1 ht Pl c K) (fun v h2 q => Tr.ret ⟨q.1, q.2.1, F1.tr q.2.2⟩))
      · rw [if_neg c]
        exact Tr.neg (nI_ge (a := 60) (b := l.length) (by omega) (by omega)) (Tr.be (X10_fails M1.1 (e := 2) (by decide) (by decide)) (Tr.ret ⟨rfl, M1.errs (by decide), F1.tr (Fr.sI (show mA 126 by unfold mA; omega))⟩))
end REF

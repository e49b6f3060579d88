/-! THE REFERENCE: what it makes and keeps -/
section REF
variable {h : Hp} {G : St}
theorem X10_isPredicate (M : MI h G) (x : Int32) : Tr (f_X10_isPredicate 123 x h) (MP h (aIsP G x)) := by
  unfold aIsP oneQ
  refine X10_os x (fun e => ?_) (fun s hs e e2 => ?_)
  · rw [e]; exact X10_fl M (by decide) (by decide)
  · rw [e2, e]
    refine Tr.ck (Lo_123 M.1) (Tr.bd (X10_isPredicateRow M hs) (fun r h1 q => ?_))
    obtain ⟨rfl, M1, F1⟩ := q
    show Tr _ (MP h (bi (prd (G.2.2.1 s)), G))
    cases prd (G.2.2.1 s) with
    | false => exact Tr.pos rfl (Tr.ret ⟨rfl, M1, F1⟩)
    | true => exact Tr.neg (by decide) (Tr.ret ⟨rfl, M1, F1⟩)
theorem X10_errorCount (M : MI h G) (c : Int32) : Tr (f_X10_errorCount 123 c h) (MP h (aErr G c)) := by
  unfold aErr
  by_cases h1 : c < -6
  · rw [show ∀ a b : Int32 × St, (if c < -6 then a else b) = a from fun a b => if_pos h1]
    exact Tr.be (r := 0) (h1 := h) (Tr.of_eq (Tr.pos h1 (Tr.ret ⟨rfl, rfl⟩))) (Tr.pos rfl (X10_fl M (by decide) (by decide)))
  · rw [show ∀ a b : Int32 × St, (if c < -6 then a else b) = b from fun a b => if_neg h1]
    by_cases h2 : c ≤ -2
    · rw [show ∀ a b : Int32 × St, (if c ≤ -2 then a else b) = a from fun a b => if_pos h2]
      have h3 : ∃ k, k < 5 ∧ (-2 : Int32) - c = nI k := by
        rw [Int32.lt_iff_toInt_lt] at h1
        rw [Int32.le_iff_toInt_le] at h2
        have z0 : (-6 : Int32).toInt = -6 := rfl
        have z1 : (-2 : Int32).toInt = -2 := rfl
        have hh : c = -2 ∨ c = -3 ∨ c = -4 ∨ c = -5 ∨ c = -6 := by
          have y3 : (-3 : Int32).toInt = -3 := rfl
          have y4 : (-4 : Int32).toInt = -4 := rfl
          have y5 : (-5 : Int32).toInt = -5 := rfl
          simp only [← Int32.toInt_inj]
          omega
        rcases hh with rfl | rfl | rfl | rfl | rfl
        · exact ⟨0, by decide, by decide⟩
        · exact ⟨1, by decide, by decide⟩
        · exact ⟨2, by decide, by decide⟩
        · exact ⟨3, by decide, by decide⟩
        · exact ⟨4, by decide, by decide⟩
      obtain ⟨k, hk, ek⟩ := h3
      have L := M.1
      have h4 : ¬ (-2 : Int32) < c := by
        rw [Int32.lt_iff_toInt_lt]
        rw [Int32.le_iff_toInt_le] at h2
        omega
      refine Tr.be (r := 1) (h1 := h) (Tr.of_eq (Tr.neg h1 (Tr.neg h4 (Tr.ret ⟨rfl, rfl⟩)))) (Tr.neg (by decide) (Tr.ck (Lo_123 L) (Tr.gp (Lp_123_3 L) ?_)))
      rw [ek, nI_clamp (by omega)]
      exact Tr.ca (La_126 L hk) (Tr.ret ⟨M.2.2.2.2.2.1 k hk, M, Fr.rf⟩)
    · rw [show ∀ a b : Int32 × St, (if c ≤ -2 then a else b) = b from fun a b => if_neg h2]
      have h4 : (-2 : Int32) < c := by
        rw [Int32.lt_iff_toInt_lt]
        rw [Int32.le_iff_toInt_le] at h2
        omega
      exact Tr.be (r := 0) (h1 := h) (Tr.of_eq (Tr.neg h1 (Tr.pos h4 (Tr.ret ⟨rfl, rfl⟩)))) (Tr.pos rfl (X10_fl M (by decide) (by decide)))
/-- the row it has made -/
def MkR (h : Hp) (l : List Nat) : Prop := gI h 123 7 = nI l.length ∧ ∀ i, i < l.length → gI h 128 i = nI (sg (cf l i))
def kW : Nat → Prop := fun a => a = 123 ∨ a = 128
/-- the work on the made row: other fields stay -/
def KFr (h h1 : Hp) : Prop := Fr kW h h1 ∧ ∀ i, i ≠ 7 → gI h1 123 i = gI h 123 i
theorem KFr.rf : KFr h h := ⟨Fr.rf, fun _ _ => rfl⟩
theorem KFr.tr {h1 h2 : Hp} (a : KFr h h1) (b : KFr h1 h2) : KFr h h2 := ⟨a.1.tr b.1, fun i hi => by rw [b.2 i hi, a.2 i hi]⟩
theorem KFr.mi {h1 : Hp} (K : KFr h h1) (M : MI h G) : MI h1 G := M.wk (K.1.wk (fun a x => by unfold kW at x; unfold mW; omega)) (K.2 2 (by decide)) (K.2 5 (by decide))
theorem X10_makes (L : Lay h) {l : List Nat} (K : MkR h l) (hl : l.length < 6000) (c : Nat) : Tr (f_X10_makes 123 (nI (sg c)) h) (fun _ h1 => MkR h1 (l ++ [c]) ∧ KFr h h1) := by
  obtain ⟨k1, k2⟩ := K
  refine Tr.ck (Lo_123 L) (Tr.gp (Lp_123_6 L) ?_)
  rw [k1]
  refine Tr.ca (La_128 L hl) ?_
  rw [nI_clamp (by omega), gI_sI_ne (by decide), k1, nI_1]
  refine Tr.nmx (Tr.ret ⟨⟨?_, fun i hi => ?_⟩, (Fr.sI (Or.inr rfl)).tr (Fr.sI (Or.inl rfl)), fun i hi => ?_⟩)
  · rw [gI_sI, upd_eq, List.length_append, List.length_singleton]
  · rw [List.length_append, List.length_singleton] at hi
    rw [gI_sI_ne (by decide), gI_sI]
    by_cases e : i = l.length
    · subst e; rw [upd_eq, cf_snoc]
    · rw [upd_ne e, cf_app_l (by omega)]; exact k2 i (by omega)
  · rw [gI_sI, upd_ne hi, gI_sI_ne (by decide)]
theorem app_snoc_take {l m : List Nat} {k : Nat} (hk : k < l.length) : m ++ l.take (k + 1) = m ++ l.take k ++ [cf l k] := by
  rw [List.append_assoc]
  congr 1
  have e := gD_get l 0 hk
  rw [List.take_succ, e]
  rfl
theorem X10_copies (M : MI h G) {m : List Nat} {s : Nat} (hs : s < 4) (K : MkR h m) (hl : m.length < 5000) : Tr (f_X10_copies 123 (nI s) h) (fun _ h1 => MkR h1 (m ++ G.2.2.1 s) ∧ KFr h h1) := by
  have W := (M.slot hs).1
  have h60 := W.2.2.1
  refine Tr.up (N := (G.2.2.1 s).length) (J := fun k x => x.1 = nI k ∧ MkR x.2 (m ++ (G.2.2.1 s).take k) ∧ KFr h x.2) ?_ ?_ (p := 0) ⟨rfl, by rw [List.take_zero, List.append_nil]; exact K, KFr.rf⟩ (Nat.zero_le _) (by omega)
  · intro k x kk hk hJ hk'
    obtain ⟨x1, h1⟩ := x
    obtain ⟨e, K1, F1⟩ := hJ
    dsimp only at e K1 F1
    subst e
    dsimp only
    have M1 := F1.mi M
    have L1 := M1.1
    refine Tr.ck (Lo_123 L1) (Tr.gp (Lp_123_0 L1) (Tr.ca (La_124 L1 (by omega)) ?_))
    rw [nI_clamp (by omega), (M1.slot hs).2.1]
    refine Tr.neg (nI_ge (b := (G.2.2.1 s).length) hk (by omega)) (Tr.be (X10_signOf M1 hs hk) (Tr.ck (Lo_123 L1) (Tr.bd (X10_makes L1 K1 (by rw [List.length_append, List.length_take]; omega) _) (fun _ h2 q => Tr.nmx (hk' _ ⟨nI_1 k, ?_, F1.tr q.2⟩)))))
    dsimp only
    rw [app_snoc_take hk]; exact q.1
  · intro x kk hJ
    obtain ⟨x1, h1⟩ := x
    obtain ⟨e, K1, F1⟩ := hJ
    dsimp only at e K1 F1
    subst e
    dsimp only
    have M1 := F1.mi M
    have L1 := M1.1
    rw [List.take_length] at K1
    refine Tr.ck (Lo_123 L1) (Tr.gp (Lp_123_0 L1) (Tr.ca (La_124 L1 (by omega)) ?_))
    rw [nI_clamp (by omega), (M1.slot hs).2.1]
    exact Tr.pos (nI_le (b := (G.2.2.1 s).length) (Nat.le_refl _) (by omega)) (Tr.ret ⟨K1, F1⟩)
/-! keeping -/
theorem RowN.cp {f g : Nat → Int32} {o p : Nat} {S : Nat → List Nat} (R : RowN g p S) (hS : ∀ s, s < 4 → (S s).length ≤ 60) (e : ∀ k, k < 244 → f (o + k) = g (p + k)) : RowN f o S := by
  intro s hs
  obtain ⟨r1, r2⟩ := R s hs
  have := hS s hs
  exact ⟨by rw [e s (by omega)]; exact r1, fun i hi => by rw [e _ (by omega)]; exact r2 i hi⟩
theorem X10_saves51 (L : Lay h) {n : Nat} (hn : n < 5) (h0n : gI h 123 2 = nI n) : Tr (loopN (fun k s => f_X10_saves_51 k 123 s.1 s.2) 5000 ((0 : Int32), h)) (fun _ h1 => gI h1 123 2 = nI (n + 1) ∧ (∀ i, i ≠ 2 → gI h1 123 i = gI h 123 i) ∧ (∀ i, gI h1 125 i = if 244 * n ≤ i ∧ i < 244 * n + 244 then gI h 124 (i - 244 * n) else gI h 125 i) ∧ Fr (fun a => a = 123 ∨ a = 125) h h1) := by
  refine Tr.up (N := 244) (J := fun k x => x.1 = nI k ∧ (∀ i, gI x.2 125 i = if 244 * n ≤ i ∧ i < 244 * n + k then gI h 124 (i - 244 * n) else gI h 125 i) ∧ Fr (fun a => a = 125) h x.2) ?_ ?_ (p := 0) ⟨rfl, fun i => by rw [if_neg (by omega)], Fr.rf⟩ (Nat.zero_le _) (by omega)
  · intro k x kk hk hJ hk'
    obtain ⟨x1, h1⟩ := x
    obtain ⟨e, B1, F1⟩ := hJ
    dsimp only at e B1 F1
    subst e
    dsimp only
    have L1 := F1.lay L
    refine Tr.neg (nI_ge (b := 244) hk (by decide)) (Tr.ck (Lo_123 L1) (Tr.gp (Lp_123_1 L1) (Tr.gp (Lp_123_0 L1) (Tr.ca (La_124 L1 hk) ?_))))
    rw [F1.I (show ¬ (123 = 125) by decide), h0n, nI_clamp (by omega), F1.I (show ¬ (124 = 125) by decide)]
    have e1 : (244 : Int32) * nI n + nI k = nI (244 * n + k) := by
      rw [show (244 : Int32) = nI 244 from rfl, pk_mul, nI_add]
    rw [e1, nI_clamp (by omega)]
    refine Tr.ca (La_125 L1 (by omega)) (Tr.nmx (hk' _ ⟨nI_1 k, fun i => ?_, F1.tr (Fr.sI rfl)⟩))
    dsimp only
    rw [gI_sI]
    by_cases ei : i = 244 * n + k
    · subst ei
      rw [upd_eq, if_pos (by omega), show 244 * n + k - 244 * n = k by omega]
    · rw [upd_ne ei, B1 i]
      by_cases c : 244 * n ≤ i ∧ i < 244 * n + k
      · rw [if_pos c, if_pos (by omega)]
      · rw [if_neg c, if_neg (by omega)]
  · intro x kk hJ
    obtain ⟨x1, h1⟩ := x
    obtain ⟨e, B1, F1⟩ := hJ
    dsimp only at e B1 F1
    subst e
    dsimp only
    have L1 := F1.lay L
    refine Tr.pos (nI_le (b := 244) (Nat.le_refl _) (by decide)) (Tr.ck (Lo_123 L1) ?_)
    have e3 : gI h1 123 = gI h 123 := F1.I (by decide)
    rw [e3, h0n, nI_1]
    refine Tr.ret ⟨by rw [gI_sI, upd_eq], fun i hi => by rw [gI_sI, upd_ne hi, e3], fun i => by rw [gI_sI_ne (by decide)]; exact B1 i, (F1.wk (fun a x => Or.inr x)).tr (Fr.sI (Or.inl rfl))⟩
end REF

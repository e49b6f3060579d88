/-! THE LAW'S CALLS: the world, and what changes since h0 -/
def WS (h0 h : Hp) (G : St) : Prop := CI h G ∧ Fr (fun a => 1 ≤ a) h0 h
theorem sl_ok {s : Nat} (hs : s < 4) : sl (nI s) = some s := by
  unfold sl
  rw [if_neg (nI_pos (by omega)), if_neg (show ¬ (4 : Int32) ≤ nI s from nI_ge (b := 4) hs (by decide)), nI_clamp (by omega)]
theorem pk_ok {p : Nat} (hp : p < 64) : pk (nI p) = some p := by
  unfold pk
  rw [if_neg (nI_pos (by omega)), if_neg (show ¬ (64 : Int32) ≤ nI p from nI_ge (b := 64) hp (by decide)), nI_clamp (by omega)]
theorem ix_ok {n k : Nat} (hk : k < n) (hn : n < 2 ^ 31) : ix n (nI k) = some k := by
  unfold ix
  rw [if_neg (nI_pos (by omega)), if_neg (nI_ge (b := n) hk hn), nI_clamp (by omega)]
theorem m1_le {i : Nat} (hi : i < 2 ^ 31) : (-1 : Int32) ≤ nI i := by
  rw [Int32.le_iff_toInt_le]
  have h := nI_pos (n := i) hi
  rw [Int32.lt_iff_toInt_lt] at h
  have z0 : (0 : Int32).toInt = 0 := rfl
  have z1 : (-1 : Int32).toInt = -1 := rfl
  omega
theorem m1_le' : (-1 : Int32) ≤ -1 := by decide
section LC
variable {h0 h : Hp} {G : St} {ρ : Type} {Q : ρ → Hp → Prop}
theorem WS.wf (W : WS h0 h G) {s : Nat} (hs : s < 4) : Wf (G.2.2.1 s) := (W.1.slot hs).2.1
theorem lc {α : Type} {a : α × St} {e : Option (α × Hp)} {K : α → Hp → Option (ρ × Hp)} (W : WS h0 h G) (t : Tr e (CP h a)) (k : ∀ h1, WS h0 h1 a.2 → Tr (K a.1 h1) Q) : Tr (ck h 1 9 (bd e K)) Q := by
  refine Tr.ck (Lo_1 W.1.1) (Tr.bd t (fun r h1 q => ?_))
  obtain ⟨rfl, C1, F1⟩ := q
  exact k h1 ⟨C1, W.2.tr (F1.wk (fun a x => x.1))⟩
theorem lce {α : Type} {a : α × St} {r : α} {G' : St} {e : Option (α × Hp)} {K : α → Hp → Option (ρ × Hp)} (W : WS h0 h G) (t : Tr e (CP h a)) (ea : a = (r, G')) (k : ∀ h1, WS h0 h1 G' → Tr (K r h1) Q) : Tr (ck h 1 9 (bd e K)) Q := by
  subst ea; exact lc W t k
theorem c_size {s : Nat} {K : Int32 → Hp → Option (ρ × Hp)} (W : WS h0 h G) (hs : s < 4) (k : ∀ h1, WS h0 h1 G → Tr (K (nI (G.2.2.1 s).length) h1) Q) : Tr (ck h 1 9 (bd (f_X9_size 1 (nI s) h) K)) Q :=
  lce (r := nI (G.2.2.1 s).length) (G' := G) W (X9_size W.1 (nI s)) (by simp only [aSize, oneQ, sl_ok hs]) k
theorem c_isP {s : Nat} {K : Int32 → Hp → Option (ρ × Hp)} (W : WS h0 h G) (hs : s < 4) (k : ∀ h1, WS h0 h1 G → Tr (K (bi (prd (G.2.2.1 s))) h1) Q) : Tr (ck h 1 9 (bd (f_X9_isPredicate 1 (nI s) h) K)) Q :=
  lce (r := bi (prd (G.2.2.1 s))) (G' := G) W (X9_isPredicate W.1 (nI s)) (by simp only [aIsP, oneQ, sl_ok hs]) k
theorem c_accepted {s : Nat} {K : Int64 → Hp → Option (ρ × Hp)} (W : WS h0 h G) (hs : s < 4) (k : ∀ h1, WS h0 h1 G → Tr (K (domI (evI (G.2.2.1 s))) h1) Q) : Tr (ck h 1 9 (bd (f_X9_accepted 1 (nI s) h) K)) Q :=
  lce (r := domI (evI (G.2.2.1 s))) (G' := G) W (X9_accepted W.1 (nI s)) (by simp only [aAccepted, oneQ, sl_ok hs]) k
theorem c_spread {s : Nat} {K : Int32 → Hp → Option (ρ × Hp)} (W : WS h0 h G) (hs : s < 4) (k : ∀ h1, WS h0 h1 G → Tr (K (nI (widN (evI (G.2.2.1 s)))) h1) Q) : Tr (ck h 1 9 (bd (f_X9_spread 1 (nI s) h) K)) Q :=
  lce (r := nI (widN (evI (G.2.2.1 s)))) (G' := G) W (X9_spread W.1 (nI s)) (by simp only [aSpread, oneQ, sl_ok hs]) k
theorem c_rounds {s : Nat} {K : Int32 → Hp → Option (ρ × Hp)} (W : WS h0 h G) (hs : s < 4) (k : ∀ h1, WS h0 h1 G → Tr (K (nI (rdsN (evI (G.2.2.1 s)))) h1) Q) : Tr (ck h 1 9 (bd (f_X9_rounds 1 (nI s) h) K)) Q :=
  lce (r := nI (rdsN (evI (G.2.2.1 s)))) (G' := G) W (X9_rounds W.1 (nI s)) (by simp only [aRounds, oneQ, sl_ok hs]) k
theorem c_dsize {s : Nat} {K : Int32 → Hp → Option (ρ × Hp)} (W : WS h0 h G) (hs : s < 4) (k : ∀ h1, WS h0 h1 G → Tr (K (nI (cO (evI (G.2.2.1 s)) + (cT (evI (G.2.2.1 s))).length)) h1) Q) : Tr (ck h 1 9 (bd (f_X9_diagramSize 1 (nI s) h) K)) Q :=
  lce (r := nI (cO (evI (G.2.2.1 s)) + (cT (evI (G.2.2.1 s))).length)) (G' := G) W (X9_diagramSize W.1 (nI s)) (by simp only [aDSize, oneQ, sl_ok hs]) k
theorem c_leaves {s : Nat} {K : Int32 → Hp → Option (ρ × Hp)} (W : WS h0 h G) (hs : s < 4) (k : ∀ h1, WS h0 h1 G → Tr (K (nI (cO (evI (G.2.2.1 s)))) h1) Q) : Tr (ck h 1 9 (bd (f_X9_leaves 1 (nI s) h) K)) Q :=
  lce (r := nI (cO (evI (G.2.2.1 s)))) (G' := G) W (X9_leaves W.1 (nI s)) (by simp only [aLeaves, oneQ, sl_ok hs]) k
theorem c_depth {s : Nat} {K : Int32 → Hp → Option (ρ × Hp)} (W : WS h0 h G) (hs : s < 4) (k : ∀ h1, WS h0 h1 G → Tr (K (nI (dpi (cO (evI (G.2.2.1 s))) (dps (cO (evI (G.2.2.1 s))) (cT (evI (G.2.2.1 s)))) (cR (evI (G.2.2.1 s))))) h1) Q) : Tr (ck h 1 9 (bd (f_X9_diagramDepth 1 (nI s) h) K)) Q :=
  lce (r := nI (dpi (cO (evI (G.2.2.1 s))) (dps (cO (evI (G.2.2.1 s))) (cT (evI (G.2.2.1 s)))) (cR (evI (G.2.2.1 s))))) (G' := G) W (X9_diagramDepth W.1 (nI s)) (by simp only [aDepth, oneQ, sl_ok hs]) k
theorem c_rows {s : Nat} {K : Int32 → Hp → Option (ρ × Hp)} (W : WS h0 h G) (hs : s < 4) (k : ∀ h1, WS h0 h1 G → Tr (K (nI (tN (G.2.2.1 s))) h1) Q) : Tr (ck h 1 9 (bd (f_X9_rows 1 (nI s) h) K)) Q :=
  lce (r := nI (tN (G.2.2.1 s))) (G' := G) W (X9_rows W.1 (nI s)) (by simp only [aRows, oneQ, sl_ok hs]) k
theorem c_compare {s t : Nat} {K : Int32 → Hp → Option (ρ × Hp)} (W : WS h0 h G) (hs : s < 4) (ht : t < 4) (k : ∀ h1, WS h0 h1 G → Tr (K (ordN (evI (G.2.2.1 s)) (evI (G.2.2.1 t))) h1) Q) : Tr (ck h 1 9 (bd (f_X9_compare 1 (nI s) (nI t) h) K)) Q :=
  lce (r := ordN (evI (G.2.2.1 s)) (evI (G.2.2.1 t))) (G' := G) W (X9_compare W.1 (nI s) (nI t)) (by simp only [aCompare, twoQ, sl_ok hs, sl_ok ht]) k
theorem c_witness {s t : Nat} {K : Int32 → Hp → Option (ρ × Hp)} (W : WS h0 h G) (hs : s < 4) (ht : t < 4) (k : ∀ h1, WS h0 h1 G → Tr (K (witN (evI (G.2.2.1 s)) (evI (G.2.2.1 t))) h1) Q) : Tr (ck h 1 9 (bd (f_X9_witness 1 (nI s) (nI t) h) K)) Q :=
  lce (r := witN (evI (G.2.2.1 s)) (evI (G.2.2.1 t))) (G' := G) W (X9_witness W.1 (nI s) (nI t)) (by simp only [aWitness, twoQ, sl_ok hs, sl_ok ht]) k
theorem c_difference {s t : Nat} {K : Int32 → Hp → Option (ρ × Hp)} (W : WS h0 h G) (hs : s < 4) (ht : t < 4) (k : ∀ h1, WS h0 h1 G → Tr (K (difF (evI (G.2.2.1 s)) (evI (G.2.2.1 t))) h1) Q) : Tr (ck h 1 9 (bd (f_X9_difference 1 (nI s) (nI t) h) K)) Q :=
  lce (r := difF (evI (G.2.2.1 s)) (evI (G.2.2.1 t))) (G' := G) W (X9_difference W.1 (nI s) (nI t)) (by simp only [aDifference, twoQ, sl_ok hs, sl_ok ht]) k
theorem c_shared {s t : Nat} {K : Int32 → Hp → Option (ρ × Hp)} (W : WS h0 h G) (hs : s < 4) (ht : t < 4) (k : ∀ h1, WS h0 h1 G → Tr (K (nI (shN (evI (G.2.2.1 s)) (evI (G.2.2.1 t)))) h1) Q) : Tr (ck h 1 9 (bd (f_X9_sharedNodes 1 (nI s) (nI t) h) K)) Q :=
  lce (r := nI (shN (evI (G.2.2.1 s)) (evI (G.2.2.1 t)))) (G' := G) W (X9_sharedNodes W.1 (nI s) (nI t)) (by simp only [aShared, twoQ, sl_ok hs, sl_ok ht]) k
theorem c_outputs {s p : Nat} {K : Int64 → Hp → Option (ρ × Hp)} (W : WS h0 h G) (hs : s < 4) (hp : p < 64) (k : ∀ h1, WS h0 h1 G → Tr (K (evI (G.2.2.1 s) p) h1) Q) : Tr (ck h 1 9 (bd (f_X9_outputs 1 (nI s) (nI p) h) K)) Q :=
  lce (r := evI (G.2.2.1 s) p) (G' := G) W (X9_outputs W.1 (nI s) (nI p)) (by simp only [aOutputs, sl_ok hs, pk_ok hp]) k
theorem c_hit {s p : Nat} {K : Int32 → Hp → Option (ρ × Hp)} (W : WS h0 h G) (hs : s < 4) (hp : p < 64) (k : ∀ h1, WS h0 h1 G → Tr (K (hitN (tR (G.2.2.1 s)) (tN (G.2.2.1 s)) p) h1) Q) : Tr (ck h 1 9 (bd (f_X9_hit 1 (nI s) (nI p) h) K)) Q :=
  lce (r := hitN (tR (G.2.2.1 s)) (tN (G.2.2.1 s)) p) (G' := G) W (X9_hit W.1 (nI s) (nI p)) (by simp only [aHit, sl_ok hs, pk_ok hp]) k
theorem c_hits {s r : Nat} {K : Int32 → Hp → Option (ρ × Hp)} (W : WS h0 h G) (hs : s < 4) (hr : r < tN (G.2.2.1 s)) (k : ∀ h1, WS h0 h1 G → Tr (K (nI (hitsN (tR (G.2.2.1 s)) (tN (G.2.2.1 s)) (nI r))) h1) Q) : Tr (ck h 1 9 (bd (f_X9_hits 1 (nI s) (nI r) h) K)) Q :=
  lce (r := nI (hitsN (tR (G.2.2.1 s)) (tN (G.2.2.1 s)) (nI r))) (G' := G) W (X9_hits W.1 (nI s) (nI r)) (by simp only [aHits, sl_ok hs, ix_ok hr (by have := tN_le (G.2.2.1 s); have := tR_len (G.2.2.1 s); omega)]) k
theorem c_match {s r f : Nat} {K : Int32 → Hp → Option (ρ × Hp)} (W : WS h0 h G) (hs : s < 4) (hr : r < tN (G.2.2.1 s)) (hf : f < 3) (k : ∀ h1, WS h0 h1 G → Tr (K (eF ((tR (G.2.2.1 s)).getD r (0, 0)).1 f) h1) Q) : Tr (ck h 1 9 (bd (f_X9_match 1 (nI s) (nI r) (nI f) h) K)) Q :=
  lce (r := eF ((tR (G.2.2.1 s)).getD r (0, 0)).1 f) (G' := G) W (X9_match W.1 (nI s) (nI r) (nI f)) (by simp only [aMatch, sl_ok hs, ix_ok hf (by decide), ix_ok hr (by have := tN_le (G.2.2.1 s); have := tR_len (G.2.2.1 s); omega)]) k
theorem c_action {s r : Nat} {i : Int32} {K : Int32 → Hp → Option (ρ × Hp)} (W : WS h0 h G) (hs : s < 4) (hr : r < tN (G.2.2.1 s)) (hi : (-1 : Int32) ≤ i) (k : ∀ h1, WS h0 h1 G → Tr (K (actN (G.2.2.1 s) r i) h1) Q) : Tr (ck h 1 9 (bd (f_X9_action 1 (nI s) (nI r) i h) K)) Q :=
  lce (r := actN (G.2.2.1 s) r i) (G' := G) W (X9_action W.1 (nI s) (nI r) i) (by simp only [aAction, sl_ok hs, if_pos hi, ix_ok hr (by have := tN_le (G.2.2.1 s); have := tR_len (G.2.2.1 s); omega)]) k
theorem c_printN {s : Nat} {K : Int32 → Hp → Option (ρ × Hp)} (W : WS h0 h G) (hs : s < 4) (k : ∀ h1, WS h0 h1 G → Tr (K (nI (prS (G.2.2.1 s)).length) h1) Q) : Tr (ck h 1 9 (bd (f_X9_printed 1 (nI s) (-1) h) K)) Q :=
  lce (r := nI (prS (G.2.2.1 s)).length) (G' := G) W (X9_printed W.1 (nI s) (-1)) (by simp only [aPrinted, sl_ok hs, if_pos m1_le', if_true]) k
theorem c_printI {s i : Nat} {K : Int32 → Hp → Option (ρ × Hp)} (W : WS h0 h G) (hs : s < 4) (hi : i < (prS (G.2.2.1 s)).length) (k : ∀ h1, WS h0 h1 G → Tr (K (nI ((prS (G.2.2.1 s)).getD i 0)) h1) Q) : Tr (ck h 1 9 (bd (f_X9_printed 1 (nI s) (nI i) h) K)) Q := by
  have hl : (prS (G.2.2.1 s)).length ≤ 358 := prS_len (W.wf hs)
  exact lce (r := nI ((prS (G.2.2.1 s)).getD i 0)) (G' := G) W (X9_printed W.1 (nI s) (nI i)) (by simp only [aPrinted, sl_ok hs, if_pos (m1_le (i := i) (by omega)), if_neg (no_m1 (k := i) (by omega)), if_neg (nI_ge (b := (prS (G.2.2.1 s)).length) hi (by omega)), nI_clamp (show i < 2 ^ 31 by omega)]) k
/-! the four slots as one number -/
noncomputable def prE (L : List Nat) (x : Int64) : Nat → Int64
  | 0 => x
  | e + 1 => (31 : Int64) * prE L x e + (nI (L.getD e 0)).toInt64
noncomputable def prL (S : Nat → List Nat) : Nat → Int64
  | 0 => 7
  | k + 1 => prE (prS (S k)) ((31 : Int64) * ((31 : Int64) * prL S k + (nI (S k).length).toInt64) + (bi (prd (S k))).toInt64) (prS (S k)).length
theorem L_print {K : Int64 → Hp → Option (ρ × Hp)} (W : WS h0 h G) (k : ∀ h1, WS h0 h1 G → Tr (K (prL G.2.2.1 4) h1) Q) : Tr (bd (f_L_print 1 h) K) Q := by
  refine Tr.bd (Q1 := fun r h1 => r = prL G.2.2.1 4 ∧ WS h0 h1 G) ?_ (fun r h1 q => by obtain ⟨rfl, W1⟩ := q; exact k h1 W1)
  refine Tr.up (N := 4) (J := fun k (x : Int64 × Int32 × Hp) => x.1 = prL G.2.2.1 k ∧ x.2.1 = nI k ∧ WS h0 x.2.2 G) ?_ ?_ (p := 0) ⟨rfl, rfl, W⟩ (Nat.zero_le _) (by omega)
  · intro s x kk hs hJ hk'
    obtain ⟨x1, x2, h1⟩ := x
    obtain ⟨ea, eb, W1⟩ := hJ
    dsimp only at ea eb W1
    subst ea eb
    dsimp only
    refine Tr.neg (nI_ge (b := 4) hs (by decide)) (c_size W1 hs (fun h2 W2 => c_isP W2 hs (fun h3 W3 => Tr.nmx (c_printN W3 hs (fun h4 W4 => ?_)))))
    have hl : (prS (G.2.2.1 s)).length ≤ 358 := prS_len (W.wf hs)
    have next := hk'
    refine Tr.up (N := (prS (G.2.2.1 s)).length) (J := fun e (y : Int64 × Int32 × Hp) => y.1 = prE (prS (G.2.2.1 s)) ((31 : Int64) * ((31 : Int64) * prL G.2.2.1 s + (nI (G.2.2.1 s).length).toInt64) + (bi (prd (G.2.2.1 s))).toInt64) e ∧ y.2.1 = nI e ∧ WS h0 y.2.2 G) ?_ ?_ (p := 0) ⟨rfl, rfl, W4⟩ (Nat.zero_le _) (by omega)
    · intro e y kk2 he hJ2 hk2
      obtain ⟨y1, y2, h5⟩ := y
      obtain ⟨ea, eb, W5⟩ := hJ2
      dsimp only at ea eb W5
      subst ea eb
      dsimp only
      exact Tr.neg (nI_ge (b := (prS (G.2.2.1 s)).length) he (by omega)) (c_printI W5 hs he (fun h6 W6 => Tr.nmx (Tr.nmx (hk2 _ ⟨rfl, nI_1 e, W6⟩))))
    · intro y kk2 hJ2
      obtain ⟨y1, y2, h5⟩ := y
      obtain ⟨ea, eb, W5⟩ := hJ2
      dsimp only at ea eb W5
      subst ea eb
      dsimp only
      exact Tr.pos (nI_le (b := (prS (G.2.2.1 s)).length) (Nat.le_refl _) (by omega)) (Tr.nmx (next _ ⟨rfl, nI_1 s, W5⟩))
  · intro x kk hJ
    obtain ⟨x1, x2, h1⟩ := x
    obtain ⟨ea, eb, W1⟩ := hJ
    dsimp only at ea eb W1
    subst ea eb
    dsimp only
    exact Tr.pos (nI_le (b := 4) (Nat.le_refl _) (by decide)) (Tr.ret ⟨rfl, W1⟩)
/-- what a check leaves: true, and the slots as they were -/
def LOK (h0 : Hp) (S : Nat → List Nat) : Int32 → Hp → Prop := fun r h1 => r = 1 ∧ ∃ G', WS h0 h1 G' ∧ G'.2.2.1 = S
theorem lg_same (x : Int64) : lg_cmp x x = 0 := (lg_cmp_eq _ _).mpr rfl
theorem lg_no {x y : Int64} (h : x ≠ y) : ¬ lg_cmp x y = 0 := fun e => h ((lg_cmp_eq _ _).mp e)
end LC

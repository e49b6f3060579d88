section OPI
variable {a0 a1 a2 : Nat → Int64}
theorem opI_64 : opI 64 a0 a1 a2 = fun p => a1 p ||| a0 p := by unfold opI; rw [if_neg (by decide), if_pos (by decide)]
theorem opI_80 : opI 80 a0 a1 a2 = fun p => seqI (a1 p) a0 := by unfold opI; rw [if_neg (by decide), if_neg (by decide), if_pos (by decide)]
theorem opI_96 : opI 96 a0 a1 a2 = starI a0 := by unfold opI; rw [if_neg (by decide), if_neg (by decide), if_neg (by decide), if_pos (by decide)]
theorem opI_112 : opI 112 a0 a1 a2 = fun p => if a0 p = 0 then ob p else 0 := by unfold opI; rw [if_neg (by decide), if_neg (by decide), if_neg (by decide), if_neg (by decide), if_pos (by decide)]
theorem opI_128 : opI 128 a0 a1 a2 = fun p => if a2 p = 0 then a0 p else a1 p := by unfold opI; rw [if_neg (by decide), if_neg (by decide), if_neg (by decide), if_neg (by decide), if_neg (by decide)]
theorem opI_lf {c : Nat} (h : c < 64) : opI c a0 a1 a2 = leafI c := by unfold opI; rw [if_pos h]
end OPI
theorem vcd_cases {c : Nat} (h : vcd c = true) : c < 64 ∨ c = 64 ∨ c = 80 ∨ c = 96 ∨ c = 112 ∨ c = 128 := by
  unfold vcd at h
  simp only [Bool.or_eq_true, beq_iff_eq, Bool.and_eq_true, decide_eq_true_eq] at h
  omega
section X1
variable {h : Hp}
theorem X1_node (L : Lay h) {p0 k : Nat} {l : List Nat} {b : Bool} (hp : PA p0) (P : PolI h p0 l b) (hk : k < l.length) (h60 : k < 60) (ok : ar (cf l k) ≤ (rt (cf l) k).length) (hv : vcd (cf l k) = true) : Tr (f_X1_evaluateNode 30 p0 (nI k) h) (fun _ h' => ∃ f, h' = wL h 31 f ∧ (∀ j, j < 64 * k → f j = gL h 31 j) ∧ ∀ p, p < 64 → f (64 * k + p) = opI (cf l k) (fun p => gL h 31 (64 * (upN (cf l) k 0 - 1) + p)) (fun p => gL h 31 (64 * (upN (cf l) k 1 - 1) + p)) (fun p => gL h 31 (64 * (upN (cf l) k 2 - 1) + p)) p) := by
  have hop : ∀ i, i < ar (cf l k) → upN (cf l) k i - 1 < k := fun i hi => by
    have h1 : upN (cf l) k i = (rt (cf l) k)[i] + 1 := rt_getD (by omega)
    have h2 := upN_le (cf l) k i
    omega
  have lt := vcd_lt hv
  refine Tr.ck (Lpo L hp) (Tr.be (X4_operandAt L hp P (j := 0) (by omega) (by omega) (by omega)) (Tr.ck (Lpo L hp) (Tr.be (X4_kindAt L hp P hk h60 (by omega)) ?_)))
  rcases vcd_cases hv with hc | hc | hc | hc | hc | hc
  · have n4 : ∀ x : Nat, 4 ≤ x → x ≤ 8 → ¬ nI (cf l k / 16) = nI x := fun x h1 h2 e => by
      have := (nI_eq (by omega) (by omega)).mp e
      omega
    refine Tr.neg (n4 4 (by omega) (by omega)) (Tr.neg (n4 5 (by omega) (by omega)) (Tr.neg (n4 6 (by omega) (by omega)) (Tr.neg (n4 7 (by omega) (by omega)) (Tr.neg (n4 8 (by omega) (by omega)) ?_))))
    refine Tr.ck (Lo_30 L) (Tr.be (X1_leaf L hp P hk h60 hv hc) (Tr.ret ⟨_, rfl, fun j hj => blk_out hj, fun p hp => ?_⟩))
    rw [blk_in hp, opI_lf hc]
  · rw [hc] at hop ⊢
    refine Tr.pos (show nI (64 / 16) = (4 : Int32) by decide) ?_
    refine Tr.ck (Lpo L hp) (Tr.be (X4_operandAt L hp P (j := 1) (by omega) (by omega) (by omega)) (Tr.ck (Lo_30 L) (Tr.be (X1_unite L h60 (hop 1 (by decide)) (hop 0 (by decide))) (Tr.ret ⟨_, rfl, fun j hj => blk_out hj, fun p hp => ?_⟩))))
    rw [blk_in hp, opI_64]
  · rw [hc] at hop ⊢
    refine Tr.neg (show ¬ nI (80 / 16) = (4 : Int32) by decide) (Tr.pos (show nI (80 / 16) = (5 : Int32) by decide) ?_)
    refine Tr.ck (Lpo L hp) (Tr.be (X4_operandAt L hp P (j := 1) (by omega) (by omega) (by omega)) (Tr.ck (Lo_30 L) (Tr.be (X1_chain L h60 (hop 1 (by decide)) (hop 0 (by decide))) (Tr.ret ⟨_, rfl, fun j hj => blk_out hj, fun p hp => ?_⟩))))
    rw [blk_in hp, opI_80]
  · rw [hc] at hop ⊢
    refine Tr.neg (show ¬ nI (96 / 16) = (4 : Int32) by decide) (Tr.neg (show ¬ nI (96 / 16) = (5 : Int32) by decide) (Tr.pos (show nI (96 / 16) = (6 : Int32) by decide) ?_))
    refine Tr.ck (Lo_30 L) (Tr.bd (X1_repeat L h60 (hop 0 (by decide))) (fun _ h1 q => Tr.ret ?_))
    obtain ⟨f, rfl, q1, q2⟩ := q
    exact ⟨f, rfl, q1, fun p hp => by rw [q2 p hp, opI_96]⟩
  · rw [hc] at hop ⊢
    refine Tr.neg (show ¬ nI (112 / 16) = (4 : Int32) by decide) (Tr.neg (show ¬ nI (112 / 16) = (5 : Int32) by decide) (Tr.neg (show ¬ nI (112 / 16) = (6 : Int32) by decide) (Tr.pos (show nI (112 / 16) = (7 : Int32) by decide) ?_)))
    refine Tr.ck (Lo_30 L) (Tr.be (X1_negate L h60 (hop 0 (by decide))) (Tr.ret ⟨_, rfl, fun j hj => blk_out hj, fun p hp => ?_⟩))
    rw [blk_in hp, opI_112]
  · rw [hc] at hop ⊢
    refine Tr.neg (show ¬ nI (128 / 16) = (4 : Int32) by decide) (Tr.neg (show ¬ nI (128 / 16) = (5 : Int32) by decide) (Tr.neg (show ¬ nI (128 / 16) = (6 : Int32) by decide) (Tr.neg (show ¬ nI (128 / 16) = (7 : Int32) by decide) (Tr.pos (show nI (128 / 16) = (8 : Int32) by decide) ?_))))
    refine Tr.ck (Lpo L hp) (Tr.be (X4_operandAt L hp P (j := 2) (by omega) (by omega) (by omega)) (Tr.ck (Lpo L hp) (Tr.be (X4_operandAt L hp P (j := 1) (by omega) (by omega) (by omega)) (Tr.ck (Lo_30 L) (Tr.be (X1_choose L h60 (hop 2 (by decide)) (hop 1 (by decide)) (hop 0 (by decide))) (Tr.ret ⟨_, rfl, fun j hj => blk_out hj, fun p hp => ?_⟩))))))
    rw [blk_in hp, opI_128]
theorem X6_assign (L : Lay h) {s p : Nat} {v : Int64} (hs : s < 4) (hp : p < 64) : f_X6_assign (44 + 22 * s) (nI p) v h = some ((), sL h (45 + 22 * s) p v) := by
  apply Tr.of_eq
  refine Tr.be (X9_isPacket hp h) (Tr.neg (by decide) (Tr.ck (Lso_44 L hs) (Tr.gp (Lsp_44_0 L hs) (Tr.ca (Lsa_45 L hs hp) (Tr.ret ⟨rfl, ?_⟩)))))
  rw [nI_clamp (by omega)]
theorem X6_imageOf (L : Lay h) {s p : Nat} (hs : s < 4) (hp : p < 64) : f_X6_imageOf (44 + 22 * s) (nI p) h = some (gL h (45 + 22 * s) p, h) := by
  apply Tr.of_eq
  refine Tr.be (X9_isPacket hp h) (Tr.neg (by decide) (Tr.ck (Lso_44 L hs) (Tr.gp (Lsp_44_0 L hs) (Tr.ca (Lsa_45 L hs hp) (Tr.ret ⟨?_, rfl⟩)))))
  rw [nI_clamp (by omega)]
/-- what a policy turns the packets into -/
noncomputable def evI (l : List Nat) : Nat → Int64 := nd zI opI (cf l) (l.length - 1)
theorem X1_ev37 (L : Lay h) {s n : Nat} (hs : s < 4) (hn1 : 1 ≤ n) (hn : n ≤ 60) {Q : Unit → Hp → Prop} (q : ∀ g, (∀ p, p < 64 → g p = gL h 31 (64 * (n - 1) + p)) → Q () (wL h (45 + 22 * s) g)) : Tr (loopN (fun kc s' => f_X1_evaluate_37 kc 30 (44 + 22 * s) (nI n) s'.1 s'.2) 5000 ((0 : Int32), h)) Q := by
  refine Tr.up (N := 64) (J := fun p s' => ∃ g, s' = (nI p, wL h (45 + 22 * s) g) ∧ ∀ j, j < p → g j = gL h 31 (64 * (n - 1) + j)) ?_ ?_ (p := 0) ⟨_, by rw [wL_self]; rfl, fun j hj => absurd hj (Nat.not_lt_zero _)⟩ (Nat.zero_le _) (by omega)
  · intro p s' kc hp hJ hk'
    obtain ⟨g, rfl, hg⟩ := hJ
    dsimp only
    refine Tr.neg (nI_ge (b := 64) hp (by decide)) (Tr.ck (Lo_30 L) ?_)
    have e : nI n - 1 = nI (n - 1) := pk_sub hn1
    rw [e]
    refine Tr.be (X1_imageOf L.wL (by omega) hp) (Tr.ck (Lso_44 L hs) (Tr.be (X6_assign L.wL hs hp) (Tr.nmx (hk' _ ⟨va_up g p (gL h 31 (64 * (n - 1) + p)), ?_, fun j hj => ?_⟩))))
    · rw [nI_1, sL_wL, gL_wL_ne (by omega)]
    · by_cases e : j = p
      · subst e; exact upd_eq
      · rw [upd_ne e]; exact hg j (by omega)
  · intro s' kc hJ
    obtain ⟨g, rfl, hg⟩ := hJ
    exact Tr.pos (nI_le (b := 64) (Nat.le_refl _) (by decide)) (Tr.ret (q g hg))
theorem X1_evaluate (L : Lay h) {p0 s : Nat} {l : List Nat} {b : Bool} (hp : PA p0) (P : PolI h p0 l b) (hs : s < 4) (W : Wf l) : Tr (f_X1_evaluate 30 p0 (44 + 22 * s) h) (fun _ h' => ∃ f g, h' = wL (wL h 31 f) (45 + 22 * s) g ∧ ∀ p, p < 64 → g p = evI l p) := by
  have hn1 := W.pos
  have hn := W.2.2.1
  refine Tr.ck (Lpo L hp) (Tr.be (X4_nodeCount L hp P) ?_)
  refine Tr.up (N := l.length) (J := fun k s' => ∃ f, s' = (nI k, wL h 31 f) ∧ ∀ j, j < k → ∀ p, p < 64 → f (64 * j + p) = nd zI opI (cf l) j p) ?_ ?_ (p := 0) ⟨_, by rw [wL_self]; rfl, fun j hj => absurd hj (Nat.not_lt_zero _)⟩ (Nat.zero_le _) (by omega)
  · intro k s' kc hk hJ hk'
    obtain ⟨f, rfl, hf⟩ := hJ
    dsimp only
    refine Tr.neg (nI_ge hk (by omega)) (Tr.neg (nI_ge (b := 60) (by omega) (by decide)) (Tr.ck (Lo_30 L) ?_))
    have P1 : PolI (wL h 31 f) p0 l b := P
    have ok := W.1 k hk
    refine Tr.bd (X1_node L.wL hp P1 hk (by omega) ok (cf_vcd W.2.2.2 k)) (fun _ h1 q => Tr.nmx (hk' _ ?_))
    obtain ⟨f2, rfl, q1, q2⟩ := q
    rw [gL_wL] at q1 q2
    refine ⟨f2, by rw [nI_1, wL_wL], fun j hj p hp2 => ?_⟩
    by_cases e : j = k
    · subst e
      rw [q2 p hp2]
      have g : ∀ i, i < ar (cf l j) → ∀ p, p < 64 → f (64 * (upN (cf l) j i - 1) + p) = (fld zI opI (cf l) j).getD i zI p := fun i hi p hp3 => by
        have h1 : upN (cf l) j i = (rt (cf l) j)[i] + 1 := rt_getD (by omega)
        have h2 := upN_le (cf l) j i
        rw [fld_get zI opI (by omega)]
        exact hf _ (by omega) p hp3
      exact opI_congr (fun h0 => g 0 h0) (fun h1 => g 1 h1) (fun h2 => g 2 h2) hp2
    · rw [q1 _ (by omega)]
      exact hf j (by omega) p hp2
  · intro s' kc hJ
    obtain ⟨f, rfl, hf⟩ := hJ
    refine Tr.pos (nI_le (Nat.le_refl _) (by omega)) ?_
    refine X1_ev37 L.wL hs hn1 hn (fun g hg => ⟨f, g, rfl, fun p hp2 => ?_⟩)
    rw [hg p hp2, gL_wL]
    exact hf _ (by omega) p hp2
end X1

section X6
variable {h : Hp} {s t : Nat}
theorem X6_widest (L : Lay h) (hs : s < 4) : f_X6_widest (44 + 22 * s) h = some (nI (widN (gL h (45 + 22 * s))), h) := by
  apply Tr.of_eq
  refine Tr.up (N := 64) (J := fun p x => x = (nI (mxF (fun p => fb_ct (bq (gL h (45 + 22 * s) p)) 64) p), nI p, h)) ?_ ?_ (p := 0) rfl (Nat.zero_le _) (by omega)
  · intro p x kk hp hJ hk'
    subst hJ
    dsimp only
    refine Tr.neg (nI_ge (b := 64) hp (by decide)) (Tr.ck (Lso_44 L hs) (Tr.gp (Lsp_44_0 L hs) (Tr.ca (Lsa_45 L hs hp) ?_)))
    rw [nI_clamp (by omega)]
    refine Tr.be (bitCount_eq _ h) (Tr.nmx (Tr.nmx (hk' _ ?_)))
    rw [nI_1, popF_ct, J9_max (Nat.lt_of_le_of_lt (X6_mx_bit _ p) (by decide)) (Nat.lt_of_le_of_lt (fb_ct_le _ 64) (by decide)) h]
    rfl
  · intro x kk hJ
    subst hJ
    exact Tr.pos (nI_le (b := 64) (Nat.le_refl _) (by decide)) (Tr.ret ⟨rfl, rfl⟩)
/-- the packets of the last step -/
def edI (f : Nat → Int64) (p : Nat) : Nat → Int64
  | 0 => ob p
  | k + 1 => alI f p (k + 1) &&& (alI f p k ^^^ (-1))
theorem bq_ed {f : Nat → Int64} {p k i : Nat} (hi : i < 64) : bq (edI f p (k + 1)) i = (bq (alI f p (k + 1)) i && !bq (alI f p k) i) := by
  show bq (_ &&& _) i = _
  rw [bq_and, bq_not _ hi]
theorem ed_next (f : Nat → Int64) (p : Nat) : ∀ k, seqI (edI f p k) f &&& (alI f p k ^^^ (-1)) = edI f p (k + 1) := by
  intro k
  refine bq_eq (fun i hi => ?_)
  rw [bq_ed hi, bq_and, bq_not _ hi, Bool.and_eq_true, Bool.and_eq_true]
  refine and_congr_left (fun hn => ?_)
  have hn : bq (alI f p k) i = false := by simpa using hn
  have e : bq (alI f p (k + 1)) i = true ↔ bq (seqI (alI f p k) f) i = true := by
    show bq (_ ||| _) i = true ↔ _
    rw [bq_or, hn]; simp
  rw [e]
  cases k with
  | zero => exact Iff.rfl
  | succ j =>
    rw [bq_seqI, bq_seqI]
    constructor
    · rintro ⟨q, q1, q2, q3⟩
      rw [bq_ed q1, Bool.and_eq_true] at q2
      exact ⟨q, q1, q2.1, q3⟩
    · rintro ⟨q, q1, q2, q3⟩
      refine ⟨q, q1, ?_, q3⟩
      rw [bq_ed q1, q2]
      cases c : bq (alI f p j) q with
      | false => rfl
      | true =>
        exfalso
        have : bq (alI f p (j + 1)) i = true := by
          show bq (_ ||| _) i = true
          rw [bq_or, (bq_seqI (alI f p j) f i).mpr ⟨q, q1, c, q3⟩, Bool.or_true]
        rw [this] at hn; cases hn
theorem al_ed (f : Nat → Int64) (p k : Nat) : alI f p k ||| edI f p (k + 1) = alI f p (k + 1) := by
  refine bq_eq (fun i hi => ?_)
  rw [bq_or, bq_ed hi, Bool.or_eq_true, Bool.and_eq_true]
  constructor
  · rintro (x | ⟨x, _⟩)
    · exact alI_sub f p k x
    · exact x
  · intro x
    cases c : bq (alI f p k) i with
    | true => exact Or.inl rfl
    | false => exact Or.inr ⟨x, rfl⟩
theorem ed_ne (f : Nat → Int64) {p : Nat} (hp : p < 64) : ∀ k, k ≤ farN f p → edI f p k ≠ 0 := by
  intro k hk
  cases k with
  | zero =>
    intro e
    have := bq_nz.mp e p hp
    rw [show edI f p 0 = ob p from rfl, bq_ob p hp p hp, decide_eq_true rfl] at this
    cases this
  | succ j =>
    intro e
    refine farN_no f p (show j < farN f p by omega) ?_
    rw [← al_ed f p j, e, or_0]
theorem ed_z (f : Nat → Int64) {p : Nat} (hp : p < 64) : edI f p (farN f p + 1) = 0 := by
  refine bq_nz.mpr (fun i hi => ?_)
  rw [bq_ed hi, farN_yes f hp]
  cases bq (alI f p (farN f p)) i <;> rfl
theorem X6_stepsFrom (L : Lay h) (hs : s < 4) {p : Nat} (hp : p < 64) : f_X6_stepsFrom (44 + 22 * s) (nI p) h = some (nI (farN (gL h (45 + 22 * s)) p), h) := by
  apply Tr.of_eq
  refine Tr.be (X9_alone p h) ?_
  have hf := farN_lt (gL h (45 + 22 * s)) hp
  refine Tr.loop (fun m x => ∃ k, k ≤ farN (gL h (45 + 22 * s)) p + 1 ∧ m = 66 - k ∧ x = (alI (gL h (45 + 22 * s)) p k, edI (gL h (45 + 22 * s)) p k, nI k - 1, nI k, h)) ?_ 5000 66 _ ⟨0, by omega, rfl, rfl⟩ (by omega)
  intro m x kk hI hk'
  obtain ⟨k, h1, h2, rfl⟩ := hI
  dsimp only
  refine Tr.neg (nI_nlt (a := 64) (b := k) (by omega) (by decide)) ?_
  by_cases c : k = farN (gL h (45 + 22 * s)) p + 1
  · refine Tr.pos ?_ (Tr.ret ⟨?_, rfl⟩)
    · rw [lg_cmp_eq, c]; exact ed_z _ hp
    · rw [c, nI_pred]
  · refine Tr.neg ?_ ?_
    · rw [lg_cmp_eq]; exact ed_ne _ hp k (by omega)
    refine Tr.nmx (Tr.ck (Lso_44 L hs) (Tr.gp (Lsp_44_0 L hs) (Tr.be (X9_imageOfSet (b0 := 0) (Lsk_45 L hs) (Lsn_45 L hs) (by omega) (by decide)) (Tr.nm (fun v e => Tr.nmx (Tr.nmx (hk' (66 - (k + 1)) _ (by omega) ⟨k + 1, by omega, rfl, ?_⟩)))))))
    have e2 : (fun q => gL h (45 + 22 * s) (0 + q)) = gL h (45 + 22 * s) := by funext q; rw [Nat.zero_add]
    rw [e2, ed_next] at e
    rw [e, al_ed, nI_pred, nI_1]
    have e3 : nI k - 1 + 1 = nI k := by
      cases k with
      | zero => decide
      | succ k => rw [nI_pred, nI_1]
    rw [e3]
theorem X6_mostSteps (L : Lay h) (hs : s < 4) : f_X6_mostSteps (44 + 22 * s) h = some (nI (rdsN (gL h (45 + 22 * s))), h) := by
  apply Tr.of_eq
  refine Tr.up (N := 64) (J := fun p x => x = (nI (mxF (farN (gL h (45 + 22 * s))) p), nI p, h)) ?_ ?_ (p := 0) rfl (Nat.zero_le _) (by omega)
  · intro p x kk hp hJ hk'
    subst hJ
    dsimp only
    refine Tr.neg (nI_ge (b := 64) hp (by decide)) (Tr.ck (Lso_44 L hs) (Tr.be (X6_stepsFrom L hs hp) (Tr.nmx (Tr.nmx (hk' _ ?_)))))
    have b1 : mxF (farN (gL h (45 + 22 * s))) p ≤ 64 := mxF_le (fun j hj => Nat.le_of_lt (farN_lt _ (by omega)))
    have b2 := farN_lt (gL h (45 + 22 * s)) hp
    rw [nI_1, J9_max (by omega) (by omega) h]
    rfl
  · intro x kk hJ
    subst hJ
    exact Tr.pos (nI_le (b := 64) (Nat.le_refl _) (by decide)) (Tr.ret ⟨rfl, rfl⟩)
section OR
variable {k7 : (Int32 × Int32 × Int32) → Option (Int32 × Hp)} {Q : Int32 → Hp → Prop} {p : Nat} {x y : Bool}
theorem X6_or47 (L : Lay h) (hs : s < 4) (ht : t < 4) (hp : p < 64) (kk : Tr (k7 (bi x, bi (y && decide (gL h (45 + 22 * t) p &&& (gL h (45 + 22 * s) p ^^^ (-1)) = 0)), nI (p + 1))) Q) : Tr (f_X6_orderTo_47 k7 (44 + 22 * s) (44 + 22 * t) (bi y) (nI p) (bi x) h) Q := by
  unfold f_X6_orderTo_47
  refine Tr.cs (fun c => Tr.nmx ?_) (fun c => ?_)
  · have c := bi_0.mp c
    rw [c] at kk
    rw [nI_1]
    exact kk
  · have c : y = true := by cases y with
      | true => rfl
      | false => exact absurd rfl c
    rw [c, Bool.true_and] at kk
    refine Tr.ck (Lso_44 L ht) (Tr.gp (Lsp_44_0 L ht) (Tr.ca (Lsa_45 L ht hp) (Tr.ck (Lso_44 L hs) (Tr.gp (Lsp_44_0 L hs) (Tr.ca (Lsa_45 L hs hp) ?_)))))
    rw [nI_clamp (by omega)]
    refine Tr.cs (fun e => Tr.nmx ?_) (fun e => Tr.nmx ?_)
    · rw [decide_eq_true ((lg_cmp_eq _ _).mp e)] at kk
      rw [nI_1]; exact kk
    · rw [decide_eq_false (fun z => e ((lg_cmp_eq _ _).mpr z))] at kk
      rw [nI_1]; exact kk
theorem X6_orderTo (L : Lay h) (hs : s < 4) (ht : t < 4) : f_X6_orderTo (44 + 22 * s) (44 + 22 * t) h = some (ordN (gL h (45 + 22 * s)) (gL h (45 + 22 * t)), h) := by
  apply Tr.of_eq
  refine Tr.up (N := 64) (J := fun p x => x = (bi (suB (gL h (45 + 22 * s)) (gL h (45 + 22 * t)) p), bi (suB (gL h (45 + 22 * t)) (gL h (45 + 22 * s)) p), nI p)) ?_ ?_ (p := 0) rfl (Nat.zero_le _) (by omega)
  · intro p x kk hp hJ hk'
    subst hJ
    dsimp only
    refine Tr.neg (nI_ge (b := 64) hp (by decide)) ?_
    refine Tr.cs (fun c => ?_) (fun c => ?_)
    · have c := bi_0.mp c
      refine X6_or47 (x := false) L hs ht hp (hk' _ ?_)
      show _ = (bi (suB _ _ p && _), bi (suB _ _ p && _), _)
      rw [c]; rfl
    · have c : suB (gL h (45 + 22 * s)) (gL h (45 + 22 * t)) p = true := by
        cases y : suB (gL h (45 + 22 * s)) (gL h (45 + 22 * t)) p with
        | true => rfl
        | false => exact absurd (by rw [y]; rfl) c
      refine Tr.ck (Lso_44 L hs) (Tr.gp (Lsp_44_0 L hs) (Tr.ca (Lsa_45 L hs hp) (Tr.ck (Lso_44 L ht) (Tr.gp (Lsp_44_0 L ht) (Tr.ca (Lsa_45 L ht hp) ?_)))))
      rw [nI_clamp (by omega)]
      refine Tr.cs (fun e => ?_) (fun e => ?_)
      · refine X6_or47 (x := true) L hs ht hp (hk' _ ?_)
        show _ = (bi (suB _ _ p && _), bi (suB _ _ p && _), _)
        rw [c, decide_eq_true ((lg_cmp_eq _ _).mp e)]; rfl
      · refine X6_or47 (x := false) L hs ht hp (hk' _ ?_)
        show _ = (bi (suB _ _ p && _), bi (suB _ _ p && _), _)
        rw [c, decide_eq_false (fun z => e ((lg_cmp_eq _ _).mpr z))]; rfl
  · intro x kk hJ
    subst hJ
    refine Tr.pos (nI_le (b := 64) (Nat.le_refl _) (by decide)) ?_
    unfold ordN
    generalize suB (gL h (45 + 22 * s)) (gL h (45 + 22 * t)) 64 = u
    generalize suB (gL h (45 + 22 * t)) (gL h (45 + 22 * s)) 64 = w
    dsimp only
    cases u
    · refine Tr.pos rfl ?_
      cases w
      · exact Tr.pos rfl (Tr.ret ⟨rfl, rfl⟩)
      · exact Tr.neg (by decide) (Tr.ret ⟨rfl, rfl⟩)
    · refine Tr.neg (by decide) ?_
      cases w
      · exact Tr.pos rfl (Tr.ret ⟨rfl, rfl⟩)
      · exact Tr.neg (by decide) (Tr.ret ⟨rfl, rfl⟩)
end OR
theorem X6_firstUnlike (L : Lay h) (hs : s < 4) (ht : t < 4) : f_X6_firstUnlike (44 + 22 * s) (44 + 22 * t) h = some (witN (gL h (45 + 22 * s)) (gL h (45 + 22 * t)), h) := by
  apply Tr.of_eq
  refine Tr.up (N := 64) (J := fun p x => x = nI p ∧ ∀ j, j < p → gL h (45 + 22 * s) j = gL h (45 + 22 * t) j) ?_ ?_ (p := 0) ⟨rfl, fun j hj => absurd hj (Nat.not_lt_zero _)⟩ (Nat.zero_le _) (by omega)
  · intro p x kk hp hJ hk'
    obtain ⟨rfl, hj⟩ := hJ
    refine Tr.neg (nI_ge (b := 64) hp (by decide)) (Tr.ck (Lso_44 L hs) (Tr.gp (Lsp_44_0 L hs) (Tr.ca (Lsa_45 L hs hp) (Tr.ck (Lso_44 L ht) (Tr.gp (Lsp_44_0 L ht) (Tr.ca (Lsa_45 L ht hp) ?_))))))
    rw [nI_clamp (by omega)]
    refine Tr.cs (fun e => Tr.nmx (hk' _ ⟨nI_1 p, fun j hj2 => ?_⟩)) (fun e => Tr.ret ⟨?_, rfl⟩)
    · by_cases c : j = p
      · subst c; exact (lg_cmp_eq _ _).mp e
      · exact hj j (by omega)
    · have : unlN (gL h (45 + 22 * s)) (gL h (45 + 22 * t)) = p := lea_eq hp (decide_eq_true (fun z => e ((lg_cmp_eq _ _).mpr z))) (fun j hj2 => decide_eq_false (fun z => z (hj j hj2)))
      unfold witN
      rw [this, if_pos hp]
  · intro x kk hJ
    obtain ⟨rfl, hj⟩ := hJ
    refine Tr.pos (nI_le (b := 64) (Nat.le_refl _) (by decide)) (Tr.ret ⟨?_, rfl⟩)
    have : unlN (gL h (45 + 22 * s)) (gL h (45 + 22 * t)) = 64 := lea_all (fun j hj2 => decide_eq_false (fun z => z (hj j hj2)))
    unfold witN
    rw [this]
    rfl
end X6

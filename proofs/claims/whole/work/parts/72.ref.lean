/-! THE REFERENCE: the calls that ask what slots do -/
section REF
variable {h : Hp} {G : St}
theorem RQ.mp {α : Type} {v : α} {a : α × St} (e : a = (v, G)) : ∀ r h1, RQ h G v r h1 → MP h a r h1 := fun r h1 q => by
  subst e; exact ⟨q.1, q.2.1, q.2.2⟩
theorem X10_outputs (M : MI h G) (x y : Int32) : Tr (f_X10_outputs 123 x y h) (MP h (aOutputs G x y)) := by
  unfold aOutputs
  refine X10_os x (fun e => ?_) (fun s hs e e2 => ?_)
  · rw [e]; exact X10_fl (f := Int32.toInt64) M (by decide) (by decide)
  · rw [e2, e]
    refine X10_op y (fun e3 => ?_) (fun p hp e3 e4 => ?_)
    · rw [e3]; exact X10_fl (f := Int32.toInt64) M (by decide) (by decide)
    · rw [e4, e3]
      exact Tr.ck (Lo_123 M.1) (Tr.bd (X10_outputsOf M hs hp) (fun r h1 q => Tr.ret q))
theorem X10_accepted (M : MI h G) (x : Int32) : Tr (f_X10_accepted 123 x h) (MP h (aAccepted G x)) := by
  unfold aAccepted oneQ
  refine X10_os x (fun e => ?_) (fun s hs e e2 => ?_)
  · rw [e]; exact X10_fl (f := Int32.toInt64) M (by decide) (by decide)
  · rw [e2, e]
    exact Tr.ck (Lo_123 M.1) (Tr.bd (X10_acceptedOf M hs) (fun r h1 q => Tr.ret q))
theorem X10_spread (M : MI h G) (x : Int32) : Tr (f_X10_spread 123 x h) (MP h (aSpread G x)) := by
  unfold aSpread oneQ
  refine X10_os x (fun e => ?_) (fun s hs e e2 => ?_)
  · rw [e]; exact X10_fl M (by decide) (by decide)
  · rw [e2, e]
    exact Tr.ck (Lo_123 M.1) (Tr.bd (X10_spreadOf M hs) (fun r h1 q => Tr.ret q))
theorem X10_rounds (M : MI h G) (x : Int32) : Tr (f_X10_rounds 123 x h) (MP h (aRounds G x)) := by
  unfold aRounds oneQ
  refine X10_os x (fun e => ?_) (fun s hs e e2 => ?_)
  · rw [e]; exact X10_fl M (by decide) (by decide)
  · rw [e2, e]
    exact Tr.ck (Lo_123 M.1) (Tr.bd (X10_roundsOf M hs) (fun r h1 q => Tr.ret q))
/-- of the first slot into other, of the second into sets -/
def BothR (h1 : Hp) (R S : Nat → Int64) : Prop := (∀ p, p < 64 → gL h1 142 p = R p) ∧ ∀ p, p < 64 → gL h1 139 p = S p
theorem X10_laysBoth (M : MI h G) {s t : Nat} (hs : s < 4) (ht : t < 4) : Tr (f_X10_laysBoth 123 (nI s) (nI t) h) (fun _ h1 => BothR h1 (evI (G.2.2.1 s)) (evI (G.2.2.1 t)) ∧ MI h1 G ∧ Fr mA h h1) := by
  refine Tr.ck (Lo_123 M.1) (Tr.bd (X10_evaluates M hs) (fun _ h1 q => ?_))
  have M1 := q.1.mi M
  have L1 := M1.1
  refine Tr.up (N := 64) (J := fun k x => x.1 = nI k ∧ (∀ p, p < k → gL x.2 142 p = evI (G.2.2.1 s) p) ∧ Fr (fun a => a = 142) h1 x.2) ?_ ?_ (p := 0) ⟨rfl, fun p hp => absurd hp (Nat.not_lt_zero _), Fr.rf⟩ (Nat.zero_le _) (by omega)
  · intro p x kk hp hJ hk'
    obtain ⟨x1, h2⟩ := x
    obtain ⟨ea, B, F2⟩ := hJ
    dsimp only at ea B F2
    subst ea
    dsimp only
    have L2 := F2.lay L1
    refine Tr.neg (nI_ge (b := 64) hp (by decide)) (Tr.ck (Lo_123 L2) (Tr.gp (Lp_123_28 L2) (Tr.gp (Lp_123_24 L2) (Tr.ca (La_139 L2 (by omega)) (Tr.ca (La_142 L2 hp) (Tr.nmx ?_))))))
    rw [nI_1, nI_clamp (by omega), F2.L (show ¬ (139 = 142) by decide), q.2 p hp]
    refine hk' _ ⟨rfl, fun r hr => ?_, F2.tr (Fr.sL rfl)⟩
    dsimp only
    rw [gL_sL]
    by_cases c : r = p
    · subst c; rw [upd_eq]
    · rw [upd_ne c]; exact B r (by omega)
  · intro x kk hJ
    obtain ⟨x1, h2⟩ := x
    obtain ⟨ea, B, F2⟩ := hJ
    dsimp only at ea B F2
    subst ea
    dsimp only
    have e123 : gI h2 123 = gI h1 123 := F2.I (by decide)
    have M2 : MI h2 G := M1.wk (F2.wk (fun a x => by unfold mW; omega)) (by rw [e123]) (by rw [e123])
    have F02 : Fr mA h h2 := q.1.mA.tr (F2.wk (fun a x => by show 123 ≤ a; omega))
    refine Tr.pos (nI_le (b := 64) (Nat.le_refl _) (by decide)) (Tr.ck (Lo_123 M2.1) (Tr.bd (X10_evaluates M2 ht) (fun _ h3 q3 => Tr.ret ⟨⟨fun p hp => ?_, q3.2⟩, q3.1.mi M2, F02.tr q3.1.mA⟩)))
    rw [q3.1.1.L (fun z => by unfold eW at z; omega)]; exact B p hp
section OR
variable {k14 : (Int32 × Int32 × Int32) → Option (Int32 × Hp)} {Q : Int32 → Hp → Prop} {p : Nat} {x y : Bool}
theorem X10_cmp54 (L : Lay h) (hp : p < 64) (kk : Tr (k14 (bi x, bi (y && decide (gL h 139 p &&& (gL h 142 p ^^^ (-1)) = 0)), nI (p + 1))) Q) : Tr (f_X10_compared_54 k14 123 (bi y) (nI p) (bi x) h) Q := by
  unfold f_X10_compared_54
  refine Tr.cs (fun c => Tr.nmx ?_) (fun c => ?_)
  · have c := bi_0.mp c
    rw [c] at kk
    rw [nI_1]
    exact kk
  · have c : y = true := by cases y with
      | true => rfl
      | false => exact absurd rfl c
    rw [c, Bool.true_and] at kk
    refine Tr.ck (Lo_123 L) (Tr.gp (Lp_123_24 L) (Tr.ca (La_139 L (by omega)) (Tr.gp (Lp_123_28 L) (Tr.ca (La_142 L hp) ?_))))
    rw [nI_clamp (by omega)]
    refine Tr.cs (fun e => Tr.nmx ?_) (fun e => Tr.nmx ?_)
    · rw [decide_eq_true ((lg_cmp_eq _ _).mp e)] at kk
      rw [nI_1]; exact kk
    · rw [decide_eq_false (fun z => e ((lg_cmp_eq _ _).mpr z))] at kk
      rw [nI_1]; exact kk
end OR
theorem X10_compared (M : MI h G) {s t : Nat} (hs : s < 4) (ht : t < 4) : Tr (f_X10_compared 123 (nI s) (nI t) h) (RQ h G (ordN (evI (G.2.2.1 s)) (evI (G.2.2.1 t)))) := by
  refine Tr.ck (Lo_123 M.1) (Tr.bd (X10_laysBoth M hs ht) (fun _ h1 q => ?_))
  obtain ⟨⟨q1, q2⟩, M1, F1⟩ := q
  have L := M1.1
  rw [← ordN_congr q1 q2]
  refine Tr.up (N := 64) (J := fun p x => x = (bi (suB (gL h1 142) (gL h1 139) p), bi (suB (gL h1 139) (gL h1 142) p), nI p)) ?_ ?_ (p := 0) rfl (Nat.zero_le _) (by omega)
  · intro p x kk hp hJ hk'
    subst hJ
    dsimp only
    refine Tr.neg (nI_ge (b := 64) hp (by decide)) ?_
    refine Tr.cs (fun c => ?_) (fun c => ?_)
    · have c := bi_0.mp c
      refine X10_cmp54 (x := false) L hp (hk' _ ?_)
      show _ = (bi (suB _ _ p && _), bi (suB _ _ p && _), _)
      rw [c]; rfl
    · have c : suB (gL h1 142) (gL h1 139) p = true := by
        cases y : suB (gL h1 142) (gL h1 139) p with
        | true => rfl
        | false => exact absurd (by rw [y]; rfl) c
      refine Tr.ck (Lo_123 L) (Tr.gp (Lp_123_28 L) (Tr.ca (La_142 L hp) (Tr.gp (Lp_123_24 L) (Tr.ca (La_139 L (by omega)) ?_))))
      rw [nI_clamp (by omega)]
      refine Tr.cs (fun e => ?_) (fun e => ?_)
      · refine X10_cmp54 (x := true) L hp (hk' _ ?_)
        show _ = (bi (suB _ _ p && _), bi (suB _ _ p && _), _)
        rw [c, decide_eq_true ((lg_cmp_eq _ _).mp e)]; rfl
      · refine X10_cmp54 (x := false) L hp (hk' _ ?_)
        show _ = (bi (suB _ _ p && _), bi (suB _ _ p && _), _)
        rw [c, decide_eq_false (fun z => e ((lg_cmp_eq _ _).mpr z))]; rfl
  · intro x kk hJ
    subst hJ
    refine Tr.pos (nI_le (b := 64) (Nat.le_refl _) (by decide)) ?_
    unfold ordN
    generalize suB (gL h1 142) (gL h1 139) 64 = u
    generalize suB (gL h1 139) (gL h1 142) 64 = w
    dsimp only
    cases u
    · refine Tr.pos rfl (Tr.pos rfl ?_)
      cases w
      · exact Tr.pos rfl (Tr.ret ⟨rfl, M1, F1⟩)
      · exact Tr.neg (by decide) (Tr.ret ⟨rfl, M1, F1⟩)
    · refine Tr.neg (by decide) ?_
      cases w
      · exact Tr.pos rfl (Tr.neg (by decide) (Tr.ret ⟨rfl, M1, F1⟩))
      · exact Tr.neg (by decide) (Tr.ret ⟨rfl, M1, F1⟩)
theorem X10_witnessOf (M : MI h G) {s t : Nat} (hs : s < 4) (ht : t < 4) : Tr (f_X10_witnessOf 123 (nI s) (nI t) h) (fun r h1 => r = witN (evI (G.2.2.1 s)) (evI (G.2.2.1 t)) ∧ BothR h1 (evI (G.2.2.1 s)) (evI (G.2.2.1 t)) ∧ MI h1 G ∧ Fr mA h h1) := by
  refine Tr.ck (Lo_123 M.1) (Tr.bd (X10_laysBoth M hs ht) (fun _ h1 q => ?_))
  have q0 := q
  obtain ⟨⟨q1, q2⟩, M1, F1⟩ := q
  have L := M1.1
  rw [← witN_congr q1 q2]
  refine Tr.up (N := 64) (J := fun p x => x = nI p ∧ ∀ j, j < p → gL h1 142 j = gL h1 139 j) ?_ ?_ (p := 0) ⟨rfl, fun j hj => absurd hj (Nat.not_lt_zero _)⟩ (Nat.zero_le _) (by omega)
  · intro p x kk hp hJ hk'
    obtain ⟨rfl, hj⟩ := hJ
    refine Tr.neg (nI_ge (b := 64) hp (by decide)) (Tr.ck (Lo_123 L) (Tr.gp (Lp_123_28 L) (Tr.ca (La_142 L hp) (Tr.gp (Lp_123_24 L) (Tr.ca (La_139 L (by omega)) ?_)))))
    rw [nI_clamp (by omega)]
    refine Tr.cs (fun e => Tr.nmx (hk' _ ⟨nI_1 p, fun j hj2 => ?_⟩)) (fun e => Tr.neg (nI_ne (b := 64) (by omega) (by omega) (by omega)) (Tr.ret ⟨?_, q0⟩))
    · by_cases c : j = p
      · subst c; exact (lg_cmp_eq _ _).mp e
      · exact hj j (by omega)
    · have : unlN (gL h1 142) (gL h1 139) = p := lea_eq hp (decide_eq_true (fun z => e ((lg_cmp_eq _ _).mpr z))) (fun j hj2 => decide_eq_false (fun z => z (hj j hj2)))
      unfold witN
      rw [this, if_pos hp]
  · intro x kk hJ
    obtain ⟨rfl, hj⟩ := hJ
    refine Tr.pos (nI_le (b := 64) (Nat.le_refl _) (by decide)) (Tr.pos rfl (Tr.ret ⟨?_, q0⟩))
    have : unlN (gL h1 142) (gL h1 139) = 64 := lea_all (fun j hj2 => decide_eq_false (fun z => z (hj j hj2)))
    unfold witN
    rw [this]
    rfl
theorem X10_tw {α : Type} {A A2 B : Hp → Option (α × Hp)} {f : List Nat → List Nat → α} {d : α} (x y : Int32) (hA : Tr (A h) (MP h (d, failS G 0))) (hA2 : Tr (A2 h) (MP h (d, failS G 0))) (hB : ∀ s t, s < 4 → t < 4 → x = nI s → y = nI t → Tr (B h) (MP h (f (G.2.2.1 s) (G.2.2.1 t), G))) : Tr (bd (f_X10_isSlot x h) fun v h2 => if v = 0 then A h2 else bd (f_X10_isSlot y h2) fun v h2 => if v = 0 then A2 h2 else B h2) (MP h (twoQ G x y d f)) := by
  unfold twoQ
  refine X10_os x (fun e => ?_) (fun s hs e e2 => ?_)
  · rw [e]; exact hA
  · rw [e2]
    refine X10_os y (fun e3 => ?_) (fun t ht e3 e4 => ?_)
    · rw [e3]; exact hA2
    · rw [e4]; exact hB s t hs ht e e3
theorem X10_compare (M : MI h G) (x y : Int32) : Tr (f_X10_compare 123 x y h) (MP h (aCompare G x y)) := by
  unfold aCompare
  refine X10_tw x y (X10_fl M (by decide) (by decide)) (X10_fl M (by decide) (by decide)) (fun s t hs ht e1 e2 => ?_)
  rw [e1, e2]
  exact Tr.ck (Lo_123 M.1) (Tr.bd (X10_compared M hs ht) (fun r h1 q => Tr.ret q))
theorem X10_witness (M : MI h G) (x y : Int32) : Tr (f_X10_witness 123 x y h) (MP h (aWitness G x y)) := by
  unfold aWitness
  refine X10_tw x y (X10_fl M (by decide) (by decide)) (X10_fl M (by decide) (by decide)) (fun s t hs ht e1 e2 => ?_)
  rw [e1, e2]
  refine Tr.ck (Lo_123 M.1) (Tr.bd (X10_witnessOf M hs ht) (fun r h1 q => ?_))
  obtain ⟨q1, q2, q3⟩ := q
  show Tr _ (MP h (witN (evI (G.2.2.1 s)) (evI (G.2.2.1 t)), G))
  generalize witN (evI (G.2.2.1 s)) (evI (G.2.2.1 t)) = w at q1 ⊢
  subst q1
  exact Tr.ret ⟨rfl, q3⟩
theorem X10_difference (M : MI h G) (x y : Int32) : Tr (f_X10_difference 123 x y h) (MP h (aDifference G x y)) := by
  unfold aDifference
  refine X10_tw x y (X10_fl M (by decide) (by decide)) (X10_fl M (by decide) (by decide)) (fun s t hs ht e1 e2 => ?_)
  rw [e1, e2]
  refine Tr.ck (Lo_123 M.1) (Tr.bd (X10_witnessOf M hs ht) (fun r h1 q => ?_))
  obtain ⟨q1, ⟨q2, q3⟩, M1, F1⟩ := q
  show Tr _ (MP h (difF (evI (G.2.2.1 s)) (evI (G.2.2.1 t)), G))
  have L := M1.1
  by_cases hu : unlN (evI (G.2.2.1 s)) (evI (G.2.2.1 t)) < 64
  · have e5 : witN (evI (G.2.2.1 s)) (evI (G.2.2.1 t)) = nI (unlN (evI (G.2.2.1 s)) (evI (G.2.2.1 t))) := if_pos hu
    have e6 : difF (evI (G.2.2.1 s)) (evI (G.2.2.1 t)) = lowF (evI (G.2.2.1 s) (unlN (evI (G.2.2.1 s)) (evI (G.2.2.1 t))) ^^^ evI (G.2.2.1 t) (unlN (evI (G.2.2.1 s)) (evI (G.2.2.1 t)))) := if_pos hu
    have hd : evI (G.2.2.1 s) (unlN (evI (G.2.2.1 s)) (evI (G.2.2.1 t))) ≠ evI (G.2.2.1 t) (unlN (evI (G.2.2.1 s)) (evI (G.2.2.1 t))) := of_decide_eq_true (lea_yes (fun j => decide (evI (G.2.2.1 s) j ≠ evI (G.2.2.1 t) j)) 64 hu)
    rw [e6]
    rw [e5] at q1
    have w1 := q2 _ hu
    have w2 := q3 _ hu
    generalize unlN (evI (G.2.2.1 s)) (evI (G.2.2.1 t)) = w at q1 w1 w2 hd hu ⊢
    generalize evI (G.2.2.1 s) w = X at w1 hd ⊢
    generalize evI (G.2.2.1 t) w = Y at w2 hd ⊢
    subst q1
    have nw : ¬ nI w = (-1 : Int32) := fun z => nI_pos (n := w) (by omega) (by rw [z]; decide)
    have ex : ∃ q, q < 64 ∧ bq (X ^^^ Y) q = true := by
      apply Classical.byContradiction
      intro hn
      apply hd
      refine bq_eq (fun q hq => ?_)
      have : bq (X ^^^ Y) q = false := by
        cases c : bq (X ^^^ Y) q with
        | false => rfl
        | true => exact absurd ⟨q, hq, c⟩ hn
      rw [bq_xor] at this
      cases h1 : bq X q <;> cases h2 : bq Y q <;> simp [h1, h2] at this ⊢
    obtain ⟨q0, hq0, hb0⟩ := ex
    have hl : lea (bq (X ^^^ Y)) 64 < 64 := by
      rcases Nat.lt_or_ge (lea (bq (X ^^^ Y)) 64) 64 with c | c
      · exact c
      · have := lea_no (bq (X ^^^ Y)) 64 q0 (by omega)
        rw [this] at hb0; cases hb0
    have hy := lea_yes (bq (X ^^^ Y)) 64 hl
    have hno := lea_no (bq (X ^^^ Y)) 64
    rw [lowF_eq hl hy hno]
    generalize lea (bq (X ^^^ Y)) 64 = q at hl hy hno
    refine Tr.up (N := q) (J := fun k x => x = nI k) ?_ ?_ (p := 0) rfl (Nat.zero_le _) (by omega)
    · intro k x kk hk hJ hk'
      subst hJ
      refine Tr.neg nw (Tr.ck (Lo_123 L) (Tr.gp (Lp_123_28 L) (Tr.ca (La_142 L hu) (Tr.gp (Lp_123_24 L) (Tr.ca (La_139 L (by omega)) ?_)))))
      rw [nI_clamp (by omega), w1, w2]
      exact Tr.pos ((sar_0 (by omega)).mpr (hno k hk)) (Tr.nmx (hk' _ (nI_1 k)))
    · intro x kk hJ
      subst hJ
      refine Tr.neg nw (Tr.ck (Lo_123 L) (Tr.gp (Lp_123_28 L) (Tr.ca (La_142 L hu) (Tr.gp (Lp_123_24 L) (Tr.ca (La_139 L (by omega)) ?_)))))
      rw [nI_clamp (by omega), w1, w2]
      exact Tr.neg (fun z => by rw [(sar_0 hl).mp z] at hy; cases hy) (Tr.neg nw (Tr.ret ⟨rfl, M1, F1⟩))
  · have e5 : witN (evI (G.2.2.1 s)) (evI (G.2.2.1 t)) = -1 := if_neg hu
    have e6 : difF (evI (G.2.2.1 s)) (evI (G.2.2.1 t)) = -1 := if_neg hu
    rw [e6]
    rw [e5] at q1
    subst q1
    exact Tr.unr (Tr.pos rfl (Tr.pos rfl (Tr.ret ⟨rfl, M1, F1⟩)))
end REF

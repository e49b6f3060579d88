/-! THE REFERENCE: the calls on tables -/
theorem bq_hi {R : Nat → Int64} {x : Int64 × Int64} (h : x ∈ dL R []) {j : Nat} (h1 : 61 ≤ j) (h2 : j < 64) : bq x.2 j = false := by
  have main : ∀ n, ∀ y ∈ lvs (acts R) [] n, bq y.2 j = false := by
    intro n
    induction n with
    | zero => intro y hy; cases hy
    | succ n ih =>
      intro y hy
      rcases insA_sub hy with e | e
      · exact ih y e
      · subst e
        cases c : bq (acts R n).2 j with
        | false => rfl
        | true =>
          obtain ⟨q, _, _, e⟩ := (bq_actH h2).mp c
          have := aN_lt n q
          omega
  exact main 64 x h
theorem tot_hA {R : Nat → Int64} {x : Int64 × Int64} (h : x ∈ dL R []) : fb_ct (hA x) 125 = tot x := by
  have e1 : fb_ct (hA x) 125 = fb_ct (hA x) 64 + fb_ct (fun k => hA x (64 + k)) 61 := fb_ct_split (hA x) 64 61
  have e2 : fb_ct (bq x.2) 64 = fb_ct (bq x.2) 61 + fb_ct (fun k => bq x.2 (61 + k)) 3 := fb_ct_split (bq x.2) 61 3
  have e3 : fb_ct (fun k => bq x.2 (61 + k)) 3 = 0 := fb_ct_zero.mpr (fun k hk => bq_hi h (by omega) (by omega))
  have e4 : fb_ct (hA x) 64 = fb_ct (bq x.1) 64 := fb_ct_cong (fun k hk => if_pos hk)
  have e5 : fb_ct (fun k => hA x (64 + k)) 61 = fb_ct (bq x.2) 61 := fb_ct_cong (fun k hk => by
    show (if 64 + k < 64 then _ else bq x.2 (64 + k - 64)) = _
    rw [if_neg (by omega), Nat.add_sub_cancel_left])
  unfold tot
  rw [e1, e2, e3, e4, e5, Nat.add_zero]
section REF
variable {h : Hp} {G : St} {RL : List (Int32 × Nat)} {n : Nat} {D : List (Int64 × Int64)}
theorem X10_hasAction (L : Lay h) (B : TbM h RL n) (A : RfL h D) (hl : RL.length ≤ 64) (hD : D.length ≤ 128) {k : Nat} (hk : k < RL.length) (hlf : (RL.getD k (0, 0)).2 < D.length) {a : Nat} (ha : a < 125) : f_X10_hasAction 123 (nI k) (nI a) h = some (bi (hA (lfR D RL k) a), h) := by
  apply Tr.of_eq
  have b2 := (B.2 k _ (gD_get RL (0, 0) hk)).2
  obtain ⟨a1, a2⟩ := A.2 _ _ (gD_get D (0, 0) hlf)
  have em : nI a - nI a / (64 : Int32) * (64 : Int32) = nI (a % 64) := pk_rem (d := 64) (by omega) (by decide) (by decide)
  have t31 : ∀ (S : Int64), Tr (f_X10_hasAction_31 (nI a) S h) (fun r h1 => r = bi (bq S (a % 64)) ∧ h1 = h) := fun S => by
    unfold f_X10_hasAction_31
    rw [em]
    have hm : a % 64 < 64 := Nat.mod_lt _ (by decide)
    by_cases c : bq S (a % 64) = true
    · exact Tr.pos ((sar_1 hm).mpr c) (Tr.ret ⟨by rw [c]; rfl, rfl⟩)
    · refine Tr.neg (fun z => c ((sar_1 hm).mp z)) (Tr.ret ⟨?_, rfl⟩)
      cases y : bq S (a % 64) with
      | true => exact absurd y c
      | false => rfl
  by_cases c : a < 64
  · have e : hA (lfR D RL k) a = bq (lfR D RL k).1 (a % 64) := by rw [Nat.mod_eq_of_lt c]; exact if_pos c
    rw [e]
    refine Tr.neg (nI_ge (b := 64) c (by decide)) (Tr.ck (Lo_123 L) (Tr.gp (Lp_123_29 L) (Tr.gp (Lp_123_38 L) (Tr.ca (La_150 L (by omega)) ?_))))
    rw [nI_clamp (by omega), b2]
    refine Tr.ca (La_143 L (by omega)) ?_
    rw [nI_clamp (by omega), a1]
    exact t31 _
  · have e : hA (lfR D RL k) a = bq (lfR D RL k).2 (a % 64) := by
      rw [show a % 64 = a - 64 by omega]; exact if_neg c
    rw [e]
    refine Tr.pos (nI_le (a := 64) (by omega) (by omega)) (Tr.ck (Lo_123 L) (Tr.gp (Lp_123_30 L) (Tr.gp (Lp_123_38 L) (Tr.ca (La_150 L (by omega)) ?_))))
    rw [nI_clamp (by omega), b2]
    refine Tr.ca (La_144 L (by omega)) ?_
    rw [nI_clamp (by omega), a2]
    exact t31 _
theorem X10_actionAt (L : Lay h) (B : TbM h RL n) (A : RfL h D) (hl : RL.length ≤ 64) (hD : D.length ≤ 128) {k : Nat} (hk : k < RL.length) (hlf : (RL.getD k (0, 0)).2 < D.length) (ht : fb_ct (hA (lfR D RL k)) 125 = tot (lfR D RL k)) (idx : Int32) : f_X10_actionAt 123 (nI k) idx h = some (if idx = -1 then nI (tot (lfR D RL k)) else aaN (lfR D RL k) idx, h) := by
  apply Tr.of_eq
  rw [← ht]
  have has := fun (a : Nat) (ha : a < 125) => X10_hasAction L B A hl hD hk hlf ha
  generalize lfR D RL k = x at has
  refine Tr.up (N := 125) (J := fun n y => y = (nI (fb_ct (hA x) n), nI n, h) ∧ ∀ j, j < n → (hA x j && decide (nI (fb_ct (hA x) j) = idx)) = false) ?_ ?_ (p := 0) ⟨rfl, fun j hj => absurd hj (Nat.not_lt_zero _)⟩ (Nat.zero_le _) (by omega)
  · intro n y kk hn hJ hk'
    obtain ⟨rfl, hj⟩ := hJ
    dsimp only
    refine Tr.neg (nI_ge (b := 125) hn (by decide)) (Tr.ck (Lo_123 L) (Tr.be (has n hn) ?_))
    refine Tr.cs (fun c => Tr.nmx (hk' _ ⟨?_, fun j hj2 => ?_⟩)) (fun c => ?_)
    · have c := bi_0.mp c
      rw [nI_1, fb_ct_succ, if_neg (by rw [c]; decide)]; rfl
    · by_cases e : j = n
      · subst e; rw [bi_0.mp c]; rfl
      · exact hj j (by omega)
    · have c : hA x n = true := by
        cases y : hA x n with
        | true => rfl
        | false => exact absurd (by rw [y]; rfl) c
      have hcl := fb_ct_le (hA x) n
      refine Tr.cs (fun c2 => Tr.ret ⟨?_, rfl⟩) (fun c2 => Tr.nmx (Tr.nmx (hk' _ ⟨?_, fun j hj2 => ?_⟩)))
      · have e : lea (fun n => hA x n && decide (nI (fb_ct (hA x) n) = idx)) 125 = n := lea_eq hn (by rw [c, decide_eq_true c2]; rfl) hj
        have c3 : ¬ idx = -1 := fun z => no_m1 (k := fb_ct (hA x) n) (by omega) (c2.trans z)
        rw [show ∀ a b : Int32, (if idx = -1 then a else b) = b from fun a b => if_neg c3]
        unfold aaN
        rw [e, if_pos hn]
      · rw [nI_1, nI_1, fb_ct_succ, if_pos c]
      · by_cases e : j = n
        · subst e; rw [decide_eq_false c2, Bool.and_false]
        · exact hj j (by omega)
  · intro y kk hJ
    obtain ⟨rfl, hj⟩ := hJ
    refine Tr.pos (nI_le (b := 125) (Nat.le_refl _) (by decide)) ?_
    by_cases c3 : idx = -1
    · rw [show ∀ a b : Int32, (if idx = -1 then a else b) = a from fun a b => if_pos c3]
      exact Tr.pos c3 (Tr.ret ⟨rfl, rfl⟩)
    · rw [show ∀ a b : Int32, (if idx = -1 then a else b) = b from fun a b => if_neg c3]
      refine Tr.neg c3 (Tr.ret ⟨?_, rfl⟩)
      have e : lea (fun n => hA x n && decide (nI (fb_ct (hA x) n) = idx)) 125 = 125 := lea_all hj
      unfold aaN
      rw [e]
      rfl
theorem X10_hitOf (L : Lay h) (B : TbM h RL n) (hn : n ≤ RL.length) (h64 : RL.length ≤ 64) {p : Nat} (hp : p < 64) : f_X10_hitOf 123 (nI p) h = some (hitN RL n p, h) := by
  apply Tr.of_eq
  refine Tr.up (N := n) (J := fun k x => x = (nI k, h) ∧ ∀ j, j < k → mtF (RL.getD j (0, 0)).1 p 3 = false) ?_ ?_ (p := 0) ⟨rfl, fun j hj => absurd hj (Nat.not_lt_zero _)⟩ (Nat.zero_le _) (by omega)
  · intro k x kk hk hJ hk'
    obtain ⟨rfl, hj⟩ := hJ
    dsimp only
    have b1 := (B.2 k _ (gD_get RL (0, 0) (show k < RL.length by omega))).1
    generalize hd : (RL.getD k (0, 0)).1 = d at b1
    refine Tr.ck (Lo_123 L) ?_
    rw [B.1]
    refine Tr.neg (nI_ge hk (by omega)) ?_
    refine Tr.up (N := 3) (J := fun f y => y = (bi (mtF d p f), nI f, h)) ?_ ?_ (p := 0) rfl (Nat.zero_le _) (by omega)
    · intro f y kf hf hJ hf'
      subst hJ
      dsimp only
      have hv := vlN_lt p f
      have em : mtF d p (f + 1) = (mtF d p f && (decide (eF d f = 4) || decide (eF d f = nI (vlN p f)))) := rfl
      refine Tr.neg (nI_ge (b := 3) hf (by decide)) (Tr.ck (Lo_123 L) (Tr.gp (Lp_123_37 L) (Tr.ca (La_149 L (by omega)) ?_)))
      rw [nI_clamp (by omega), b1]
      refine Tr.be (X10_demandOf d hf h) ?_
      cases c : mtF d p f with
      | false =>
        refine Tr.pos rfl (Tr.nmx (hf' _ ?_))
        rw [em, c, nI_1]; rfl
      | true =>
        refine Tr.neg (by decide) ?_
        by_cases c1 : eF d f = 4
        · refine Tr.pos c1 (Tr.nmx (hf' _ ?_))
          rw [em, c, decide_eq_true c1, nI_1]; rfl
        · refine Tr.neg c1 (Tr.be (X10_valueOf hp hf h) ?_)
          by_cases c2 : eF d f = nI (vlN p f)
          · refine Tr.pos c2 (Tr.nmx (hf' _ ?_))
            rw [em, c, decide_eq_true c2, Bool.or_true, nI_1]; rfl
          · refine Tr.neg c2 (Tr.nmx (hf' _ ?_))
            rw [em, c, decide_eq_false c1, decide_eq_false c2, nI_1]; rfl
    · intro y kf hJ
      subst hJ
      dsimp only
      refine Tr.pos (nI_le (b := 3) (Nat.le_refl _) (by decide)) ?_
      cases c : mtF d p 3 with
      | false =>
        refine Tr.pos rfl (Tr.nmx (hk' _ ⟨by rw [nI_1], fun j hj2 => ?_⟩))
        by_cases e : j = k
        · subst e; rw [hd]; exact c
        · exact hj j (by omega)
      | true =>
        refine Tr.neg (by decide) (Tr.ret ⟨?_, rfl⟩)
        have e : lea (fun r => mtF (RL.getD r (0, 0)).1 p 3) n = k := lea_eq hk (by rw [hd]; exact c) hj
        unfold hitN
        rw [e, if_pos hk]
  · intro x kk hJ
    obtain ⟨rfl, hj⟩ := hJ
    refine Tr.ck (Lo_123 L) ?_
    rw [B.1]
    refine Tr.pos (nI_le (Nat.le_refl _) (by omega)) (Tr.ret ⟨?_, rfl⟩)
    have e : lea (fun r => mtF (RL.getD r (0, 0)).1 p 3) n = n := lea_all hj
    unfold hitN
    rw [e, if_neg (Nat.lt_irrefl _)]
theorem MP.gof {α : Type} {h1 : Hp} {a : α × St} {e : Option (α × Hp)} (F : Fr mA h h1) (t : Tr e (MP h1 a)) : Tr e (MP h a) := Tr.imp t (fun _ _ q => ⟨q.1, q.2.1, F.tr q.2.2⟩)
theorem X10_rows (M : MI h G) (x : Int32) : Tr (f_X10_rows 123 x h) (MP h (aRows G x)) := by
  unfold aRows oneQ
  refine X10_os x (fun e => ?_) (fun s hs e e2 => ?_)
  · rw [e]; exact X10_fl M (by decide) (by decide)
  · rw [e2, e]
    refine Tr.ck (Lo_123 M.1) (Tr.bd (X10_tabulates M hs) (fun r h1 q => ?_))
    obtain ⟨q1, q2, q3, q4⟩ := q
    exact Tr.ck (Lo_123 q3.1) (Tr.ret ⟨q1.1, q3, q4⟩)
/-- whether there is a row -/
theorem X10_hr {α : Type} {Q : α → Hp → Prop} {A K : Hp → Option (α × Hp)} (M : MI h G) (x r : Int32) (hA1 : sl x = none → Tr (A h) Q) (hA2 : ∀ s h1, s < 4 → sl x = some s → ix (tN (G.2.2.1 s)) r = none → MI h1 G → Fr mA h h1 → Tr (A h1) Q)
    (hB : ∀ s k h1, s < 4 → sl x = some s → k < tN (G.2.2.1 s) → r = nI k → ix (tN (G.2.2.1 s)) r = some k → TbM h1 (tR (G.2.2.1 s)) (tN (G.2.2.1 s)) → RfL h1 (lD (G.2.2.1 s)) → MI h1 G → Fr mA h h1 → Tr (K h1) Q) : Tr (bd (f_X10_hasRow 123 x r h) fun v h2 => if v = 0 then A h2 else K h2) Q := by
  have key : Tr (f_X10_hasRow 123 x r h) (fun v h1 => (v = 0 ∧ sl x = none ∧ h1 = h) ∨ (v = 0 ∧ ∃ s, s < 4 ∧ sl x = some s ∧ ix (tN (G.2.2.1 s)) r = none ∧ MI h1 G ∧ Fr mA h h1) ∨ (v = 1 ∧ ∃ s k, s < 4 ∧ sl x = some s ∧ k < tN (G.2.2.1 s) ∧ r = nI k ∧ ix (tN (G.2.2.1 s)) r = some k ∧ TbM h1 (tR (G.2.2.1 s)) (tN (G.2.2.1 s)) ∧ RfL h1 (lD (G.2.2.1 s)) ∧ MI h1 G ∧ Fr mA h h1)) := by
    refine X10_os x (fun e => Tr.ret (Or.inl ⟨rfl, e, rfl⟩)) (fun s hs e e2 => ?_)
    subst e
    refine Tr.ck (Lo_123 M.1) (Tr.bd (X10_tabulates M hs) (fun _ h1 q => ?_))
    obtain ⟨q1, q2, q3, q4⟩ := q
    have n1 := tN_le (G.2.2.1 s)
    have n2 := tR_len (G.2.2.1 s)
    refine Tr.ck (Lo_123 q3.1) ?_
    rw [q1.1]
    rcases ix_cases (tN (G.2.2.1 s)) (by omega) r with ⟨e1, c⟩ | ⟨k, hk, e1, e3⟩
    · have e0 : f_X10_within r 0 (nI (tN (G.2.2.1 s)) - 1) h1 = some (0, h1) := by
        cases hn : tN (G.2.2.1 s) with
        | zero =>
          apply Tr.of_eq
          by_cases c2 : r < 0
          · exact Tr.pos c2 (Tr.ret ⟨rfl, rfl⟩)
          · refine Tr.neg c2 (Tr.pos ?_ (Tr.ret ⟨rfl, rfl⟩))
            show (-1 : Int32) < r
            rw [Int32.lt_iff_toInt_lt] at c2 ⊢
            have z0 : (0 : Int32).toInt = 0 := rfl
            have z1 : (-1 : Int32).toInt = -1 := rfl
            omega
        | succ m =>
          rw [nI_pred]
          exact (X10_within r (n := m) (by omega) h1).1 (by rw [hn] at e1; exact e1)
      exact Tr.be e0 (Tr.bz (Or.inl rfl) (Tr.ret (Or.inr (Or.inl ⟨rfl, s, hs, e2, e1, q3, q4⟩))))
    · obtain ⟨m, hm⟩ : ∃ m, tN (G.2.2.1 s) = m + 1 := ⟨tN (G.2.2.1 s) - 1, by omega⟩
      have e0 : f_X10_within r 0 (nI (tN (G.2.2.1 s)) - 1) h1 = some (1, h1) := by
        rw [hm, nI_pred]
        exact (X10_within r (n := m) (by omega) h1).2 k e1 (by omega)
      exact Tr.be e0 (Tr.bz (Or.inr rfl) (Tr.ret (Or.inr (Or.inr ⟨rfl, s, k, hs, e2, hk, e1, e3, q1, q2, q3, q4⟩))))
  refine Tr.bd key (fun v h1 q => ?_)
  rcases q with ⟨rfl, e, rfl⟩ | ⟨rfl, s, hs, e, e1, M1, F1⟩ | ⟨rfl, s, k, hs, e, hk, e1, e2, B, A1, M1, F1⟩
  · exact Tr.pos rfl (hA1 e)
  · exact Tr.pos rfl (hA2 s h1 hs e e1 M1 F1)
  · exact Tr.neg (by decide) (hB s k h1 hs e hk e1 e2 B A1 M1 F1)
theorem X10_match (M : MI h G) (x r f : Int32) : Tr (f_X10_match 123 x r f h) (MP h (aMatch G x r f)) := by
  rcases ix_cases 3 (by decide) f with ⟨e3, c⟩ | ⟨k, hk, e3, e4⟩
  · have ea : aMatch G x r f = (-2, failS G 0) := by
      unfold aMatch
      cases sl x with
      | none => rfl
      | some s => dsimp only; rw [e3]
    rw [ea]
    exact Tr.be ((X10_within f (n := 2) (by decide) h).1 e3) (Tr.pos rfl (X10_fl M (by decide) (by decide)))
  · refine Tr.be ((X10_within f (n := 2) (by decide) h).2 k e3 hk) (Tr.neg (by decide) (Tr.ck (Lo_123 M.1) ?_))
    refine X10_hr M x r (fun e => ?_) (fun s h1 hs e e1 M1 F1 => ?_) (fun s j h1 hs e hj e1 e2 B A1 M1 F1 => ?_)
    · have ea : aMatch G x r f = (-2, failS G 0) := by unfold aMatch; rw [e]
      rw [ea]
      exact X10_fl M (by decide) (by decide)
    · have ea : aMatch G x r f = (-2, failS G 0) := by unfold aMatch; rw [e]; dsimp only; rw [e4]; dsimp only; rw [e1]
      rw [ea]
      exact MP.gof F1 (X10_fl M1 (by decide) (by decide))
    · have ea : aMatch G x r f = (eF ((tR (G.2.2.1 s)).getD j (0, 0)).1 k, G) := by unfold aMatch; rw [e]; dsimp only; rw [e4]; dsimp only; rw [e2]
      rw [ea]
      have n1 := tN_le (G.2.2.1 s)
      have n2 := tR_len (G.2.2.1 s)
      have b1 := (B.2 j _ (gD_get (tR (G.2.2.1 s)) (0, 0) (by omega))).1
      subst e1 e3
      refine Tr.ck (Lo_123 M1.1) (Tr.gp (Lp_123_37 M1.1) (Tr.ca (La_149 M1.1 (by omega)) ?_))
      rw [nI_clamp (by omega), b1]
      exact Tr.be (X10_demandOf _ hk h1) (Tr.ret ⟨rfl, M1, F1⟩)
theorem lf_lt (l : List Nat) {k : Nat} (hk : k < tN l) : ((tR l).getD k (0, 0)).2 < (lD l).length := by
  have n1 := tN_le l
  exact vis_leaf _ _ _ _ _ _ (gD_mem (tR l) (0, 0) (by omega))
theorem X10_action (M : MI h G) (x r i : Int32) : Tr (f_X10_action 123 x r i h) (MP h (aAction G x r i)) := by
  by_cases h1 : (-1 : Int32) ≤ i
  · have h2 : ¬ i < (-1 : Int32) := by
      rw [Int32.le_iff_toInt_le] at h1
      rw [Int32.lt_iff_toInt_lt]
      omega
    refine Tr.neg h2 (Tr.ck (Lo_123 M.1) ?_)
    refine X10_hr M x r (fun e => ?_) (fun s h1' hs e e1 M1 F1 => ?_) (fun s j h1' hs e hj e1 e2 B A1 M1 F1 => ?_)
    · have ea : aAction G x r i = (-2, failS G 0) := by unfold aAction; rw [e]
      rw [ea]
      exact X10_fl M (by decide) (by decide)
    · have ea : aAction G x r i = (-2, failS G 0) := by unfold aAction; rw [e]; dsimp only; rw [if_pos h1, e1]
      rw [ea]
      exact MP.gof F1 (X10_fl M1 (by decide) (by decide))
    · have ea : aAction G x r i = (actN (G.2.2.1 s) j i, G) := by unfold aAction; rw [e]; dsimp only; rw [if_pos h1, e2]
      rw [ea]
      have n1 := tN_le (G.2.2.1 s)
      have n2 := tR_len (G.2.2.1 s)
      have nd : (lD (G.2.2.1 s)).length ≤ 64 := dL_len _
      have hl := lf_lt (G.2.2.1 s) hj
      subst e1
      refine Tr.ck (Lo_123 M1.1) (Tr.be (X10_actionAt M1.1 B A1 n2 (by omega) (by omega) hl (tot_hA (gD_mem _ _ hl)) i) (Tr.ret ⟨rfl, M1, F1⟩))
  · have h2 : i < (-1 : Int32) := by
      rw [Int32.le_iff_toInt_le] at h1
      rw [Int32.lt_iff_toInt_lt]
      omega
    have ea : aAction G x r i = (-2, failS G 0) := by
      unfold aAction
      cases sl x with
      | none => rfl
      | some s => dsimp only; rw [if_neg h1]
    rw [ea]
    exact Tr.pos h2 (X10_fl M (by decide) (by decide))
theorem X10_hit (M : MI h G) (x y : Int32) : Tr (f_X10_hit 123 x y h) (MP h (aHit G x y)) := by
  unfold aHit
  refine X10_os x (fun e => ?_) (fun s hs e e2 => ?_)
  · rw [e]; exact X10_fl M (by decide) (by decide)
  · rw [e2, e]
    dsimp only
    refine X10_op y (fun e3 => ?_) (fun p hp e3 e4 => ?_)
    · rw [e3]; exact X10_fl M (by decide) (by decide)
    · rw [e4]
      dsimp only
      subst e3
      refine Tr.ck (Lo_123 M.1) (Tr.bd (X10_tabulates M hs) (fun _ h1 q => ?_))
      obtain ⟨q1, q2, q3, q4⟩ := q
      have n1 := tN_le (G.2.2.1 s)
      have n2 := tR_len (G.2.2.1 s)
      refine Tr.ck (Lo_123 q3.1) (Tr.be (X10_hitOf q3.1 q1 n1 n2 hp) ?_)
      generalize hitN (tR (G.2.2.1 s)) (tN (G.2.2.1 s)) p = w
      exact Tr.ret ⟨rfl, q3, q4⟩
theorem X10_hits (M : MI h G) (x r : Int32) : Tr (f_X10_hits 123 x r h) (MP h (aHits G x r)) := by
  refine Tr.ck (Lo_123 M.1) (X10_hr M x r (fun e => ?_) (fun s h1 hs e e1 M1 F1 => ?_) (fun s j h1 hs e hj e1 e2 B A1 M1 F1 => ?_))
  · have ea : aHits G x r = (-2, failS G 0) := by unfold aHits; rw [e]
    rw [ea]
    exact X10_fl M (by decide) (by decide)
  · have ea : aHits G x r = (-2, failS G 0) := by unfold aHits; rw [e]; dsimp only; rw [e1]
    rw [ea]
    exact MP.gof F1 (X10_fl M1 (by decide) (by decide))
  · have ea : aHits G x r = (nI (hitsN (tR (G.2.2.1 s)) (tN (G.2.2.1 s)) r), G) := by unfold aHits; rw [e]; dsimp only; rw [e2]
    rw [ea]
    have n1 := tN_le (G.2.2.1 s)
    have n2 := tR_len (G.2.2.1 s)
    have L1 := M1.1
    generalize tR (G.2.2.1 s) = RL at B n1 n2 ⊢
    generalize tN (G.2.2.1 s) = n at B n1 ⊢
    refine Tr.up (N := 64) (J := fun p x => x.1 = nI (fb_ct (fun p => decide (hitN RL n p = r)) p) ∧ x.2.1 = nI p ∧ x.2.2 = h1) ?_ ?_ (p := 0) ⟨rfl, rfl, rfl⟩ (Nat.zero_le _) (by omega)
    · intro p x kk hp hJ hk'
      obtain ⟨x1, x2, x3⟩ := x
      obtain ⟨ea, eb, ec⟩ := hJ
      dsimp only at ea eb ec
      subst ea eb ec
      dsimp only
      refine Tr.neg (nI_ge (b := 64) hp (by decide)) (Tr.ck (Lo_123 L1) (Tr.be (X10_hitOf L1 B n1 n2 hp) ?_))
      by_cases c : hitN RL n p = r
      · refine Tr.pos c (Tr.nmx (Tr.nmx (hk' _ ⟨?_, nI_1 p, rfl⟩)))
        dsimp only
        rw [fb_ct, decide_eq_true c]
        exact nI_1 _
      · refine Tr.neg c (Tr.nmx (Tr.nmx (hk' _ ⟨?_, nI_1 p, rfl⟩)))
        dsimp only
        rw [fb_ct, decide_eq_false c]
        exact nI_add _ 0
    · intro x kk hJ
      obtain ⟨x1, x2, x3⟩ := x
      obtain ⟨ea, eb, ec⟩ := hJ
      dsimp only at ea eb ec
      subst ea eb ec
      dsimp only
      exact Tr.pos (nI_le (b := 64) (Nat.le_refl _) (by decide)) (Tr.ret ⟨rfl, M1, F1⟩)
end REF

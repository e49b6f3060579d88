/-! THE REFERENCE: queries on what a slot does -/
theorem EFr.mA {h h1 : Hp} (K : EFr h h1) : Fr mA h h1 := K.1.wk (fun a x => by unfold eW at x; show 123 ≤ a; omega)
section REF
variable {h : Hp} {G : St}
theorem X10_op {α : Type} {Q : α → Hp → Prop} {A B : Hp → Option (α × Hp)} (x : Int32) (hA : pk x = none → Tr (A h) Q) (hB : ∀ s, s < 64 → x = nI s → pk x = some s → Tr (B h) Q) : Tr (bd (f_X10_isPacket x h) fun v h2 => if v = 0 then A h2 else B h2) Q := by
  have hA : ix 64 x = none → Tr (A h) Q := hA
  have hB : ∀ s, s < 64 → x = nI s → ix 64 x = some s → Tr (B h) Q := hB
  rcases ix_cases 64 (by decide) x with ⟨e, c⟩ | ⟨s, hs, e, e2⟩
  · have w : f_X10_isPacket x h = some (0, h) := Tr.of_eq (Tr.be ((X10_within x (n := 63) (by decide) h).1 e) (Tr.bz (Or.inl rfl) (Tr.ret ⟨rfl, rfl⟩)))
    exact Tr.be w (Tr.pos rfl (hA e))
  · have w : f_X10_isPacket x h = some (1, h) := Tr.of_eq (Tr.be ((X10_within x (n := 63) (by decide) h).2 s e hs) (Tr.bz (Or.inr rfl) (Tr.ret ⟨rfl, rfl⟩)))
    exact Tr.be w (Tr.neg (by decide) (hB s hs e e2))
/-- a query on what slot s does -/
def RQ {α : Type} (h : Hp) (G : St) (v : α) : α → Hp → Prop := fun r h1 => r = v ∧ MI h1 G ∧ Fr mA h h1
theorem X10_outputsOf (M : MI h G) {s p : Nat} (hs : s < 4) (hp : p < 64) : Tr (f_X10_outputsOf 123 (nI s) (nI p) h) (RQ h G (evI (G.2.2.1 s) p)) := by
  refine Tr.ck (Lo_123 M.1) (Tr.bd (X10_evaluates M hs) (fun _ h1 q => ?_))
  have M1 := q.1.mi M
  refine Tr.ck (Lo_123 M1.1) (Tr.gp (Lp_123_24 M1.1) (Tr.ca (La_139 M1.1 (by omega)) (Tr.ret ⟨?_, M1, q.1.mA⟩)))
  rw [nI_clamp (by omega)]
  exact q.2 p hp
theorem X10_acceptedOf (M : MI h G) {s : Nat} (hs : s < 4) : Tr (f_X10_acceptedOf 123 (nI s) h) (RQ h G (domI (evI (G.2.2.1 s)))) := by
  refine Tr.ck (Lo_123 M.1) (Tr.bd (X10_evaluates M hs) (fun _ h1 q => ?_))
  have M1 := q.1.mi M
  have L1 := M1.1
  rw [← domI_congr q.2]
  refine Tr.up (N := 64) (J := fun k x => x = (mkI (fun p => decide (gL h1 139 p ≠ 0)) k, nI k)) ?_ ?_ (p := 0) rfl (Nat.zero_le _) (by omega)
  · intro p x kk hp hJ hk'
    subst hJ
    dsimp only
    refine Tr.neg (nI_ge (b := 64) hp (by decide)) (Tr.ck (Lo_123 L1) (Tr.gp (Lp_123_24 L1) (Tr.ca (La_139 L1 (by omega)) ?_)))
    rw [nI_clamp (by omega)]
    have em : mkI (fun p => decide (gL h1 139 p ≠ 0)) (p + 1) = mkI (fun p => decide (gL h1 139 p ≠ 0)) p ||| (if decide (gL h1 139 p ≠ 0) then ob p else 0) := rfl
    by_cases c : gL h1 139 p = 0
    · refine Tr.pos ((lg_cmp_eq _ _).mpr c) (Tr.nmx (Tr.nmx (hk' _ ?_)))
      rw [em, decide_eq_false (fun z => z c), nI_1]; rfl
    · refine Tr.neg (fun z => c ((lg_cmp_eq _ _).mp z)) (Tr.nmx (Tr.nmx (hk' _ ?_)))
      rw [em, decide_eq_true c, nI_1]; rfl
  · intro x kk hJ
    subst hJ
    exact Tr.pos (nI_le (b := 64) (Nat.le_refl _) (by decide)) (Tr.ret ⟨rfl, M1, q.1.mA⟩)
theorem X10_ones (x : Int64) (h : Hp) : f_X10_ones x h = some (nI (fb_ct (bq x) 64), h) := by
  apply Tr.of_eq
  refine Tr.up (N := 64) (J := fun k y => y = (nI (fb_ct (bq x) k), nI k)) ?_ ?_ (p := 0) rfl (Nat.zero_le _) (by omega)
  · intro p y kk hp hJ hk'
    subst hJ
    dsimp only
    refine Tr.neg (nI_ge (b := 64) hp (by decide)) ?_
    cases c : bq x p with
    | true =>
      refine Tr.pos ((sar_1 hp).mpr c) (Tr.nmx (Tr.nmx (hk' _ ?_)))
      rw [fb_ct_succ, c, nI_1, nI_1]; rfl
    | false =>
      refine Tr.neg (fun z => by rw [(sar_1 hp).mp z] at c; cases c) (Tr.nmx (Tr.nmx (hk' _ ?_)))
      rw [fb_ct_succ, c, nI_1]
      generalize fb_ct (bq x) p = w
      show (nI w + nI 0, nI (p + 1)) = (nI (w + 0), nI (p + 1))
      rw [nI_add]
  · intro y kk hJ
    subst hJ
    exact Tr.pos (nI_le (b := 64) (Nat.le_refl _) (by decide)) (Tr.ret ⟨rfl, rfl⟩)
theorem X10_spreadOf (M : MI h G) {s : Nat} (hs : s < 4) : Tr (f_X10_spreadOf 123 (nI s) h) (RQ h G (nI (widN (evI (G.2.2.1 s))))) := by
  refine Tr.ck (Lo_123 M.1) (Tr.bd (X10_evaluates M hs) (fun _ h1 q => ?_))
  have M1 := q.1.mi M
  have L1 := M1.1
  rw [← widN_congr q.2]
  refine Tr.up (N := 64) (J := fun k x => x = (nI (mxF (fun p => fb_ct (bq (gL h1 139 p)) 64) k), nI k, h1)) ?_ ?_ (p := 0) rfl (Nat.zero_le _) (by omega)
  · intro p x kk hp hJ hk'
    subst hJ
    dsimp only
    have em : mxF (fun p => fb_ct (bq (gL h1 139 p)) 64) (p + 1) = if mxF (fun p => fb_ct (bq (gL h1 139 p)) 64) p < fb_ct (bq (gL h1 139 p)) 64 then fb_ct (bq (gL h1 139 p)) 64 else mxF (fun p => fb_ct (bq (gL h1 139 p)) 64) p := rfl
    have b1 : mxF (fun p => fb_ct (bq (gL h1 139 p)) 64) p ≤ 64 := X6_mx_bit _ p
    have b2 : fb_ct (bq (gL h1 139 p)) 64 ≤ 64 := fb_ct_le _ 64
    have on := X10_ones (gL h1 139 p) h1
    generalize fb_ct (bq (gL h1 139 p)) 64 = y at em b2 on
    generalize mxF (fun p => fb_ct (bq (gL h1 139 p)) 64) (p + 1) = z at em hk'
    generalize mxF (fun p => fb_ct (bq (gL h1 139 p)) 64) p = w at em b1
    refine Tr.neg (nI_ge (b := 64) hp (by decide)) (Tr.ck (Lo_123 L1) (Tr.gp (Lp_123_24 L1) (Tr.ca (La_139 L1 (by omega)) ?_)))
    rw [nI_clamp (by omega)]
    refine Tr.be on ?_
    by_cases c : w < y
    · rw [if_pos c] at em
      subst em
      refine Tr.neg (nI_ge (a := w) (b := z) c (by omega)) (Tr.ck (Lo_123 L1) (Tr.gp (Lp_123_24 L1) (Tr.ca (La_139 L1 (by omega)) ?_)))
      exact Tr.be on (Tr.nmx (hk' _ (by rw [nI_1])))
    · rw [if_neg c] at em
      subst em
      exact Tr.pos (nI_le (a := y) (b := z) (by omega) (by omega)) (Tr.nmx (hk' _ (by rw [nI_1])))
  · intro x kk hJ
    subst hJ
    exact Tr.pos (nI_le (b := 64) (Nat.le_refl _) (by decide)) (Tr.ret ⟨rfl, M1, q.1.mA⟩)
theorem X10_roundsOf (M : MI h G) {s : Nat} (hs : s < 4) : Tr (f_X10_roundsOf 123 (nI s) h) (RQ h G (nI (rdsN (evI (G.2.2.1 s))))) := by
  refine Tr.ck (Lo_123 M.1) (Tr.bd (X10_evaluates M hs) (fun _ h1 q => ?_))
  have M1 := q.1.mi M
  have L1 := M1.1
  rw [← rdsN_congr q.2]
  generalize hF : gL h1 139 = F
  refine Tr.up (N := 64) (J := fun k x => x.1 = nI (mxF (farN F) k) ∧ x.2.1 = nI k ∧ Fr (fun a => a = 140) h1 x.2.2) ?_ ?_ (p := 0) ⟨rfl, rfl, Fr.rf⟩ (Nat.zero_le _) (by omega)
  · intro p x kk hp hJ hk'
    obtain ⟨x1, x2, h2⟩ := x
    obtain ⟨ea, eb, F2⟩ := hJ
    dsimp only at ea eb F2
    have L2 := F2.lay L1
    have e139 : gL h2 139 = F := by rw [F2.L (by decide)]; exact hF
    have em : mxF (farN F) (p + 1) = if mxF (farN F) p < farN F p then farN F p else mxF (farN F) p := rfl
    have b1 : mxF (farN F) p ≤ 64 := mxF_le (fun j hj => Nat.le_of_lt (farN_lt F (by omega)))
    have b2 := farN_lt F hp
    generalize hw : mxF (farN F) p = w at ea em b1
    generalize mxF (farN F) (p + 1) = z at em hk'
    subst ea eb
    dsimp only
    refine Tr.neg (nI_ge (b := 64) hp (by decide)) (Tr.ck (Lo_123 L2) (Tr.bd (X10_reached L2 (b := 0) hp (by omega)) (fun r h3 q3 => ?_)))
    obtain ⟨r1, r2, F3⟩ := q3
    have e0 : (fun q => gL h2 139 (0 + q)) = F := by funext j; rw [Nat.zero_add, e139]
    rw [e0] at r1 r2
    have L3 := F3.lay L2
    have nz : ¬ lg_cmp r 0 = 0 := by
      rw [lg_cmp_eq, r1]
      intro z
      have := (bq_starI F p hp).mpr Rch.rf
      rw [z, bq_0] at this
      cases this
    refine Tr.neg nz (Tr.ck (Lo_123 L3) (Tr.gp (Lp_123_26 L3) (Tr.ca (La_140 L3 hp) ?_)))
    rw [nI_clamp (by omega), r2]
    generalize farN F p = y at em b2 r2 ⊢
    by_cases c : w < y
    · rw [if_pos c] at em
      subst em
      exact Tr.neg (nI_ge (a := w) (b := z) c (by omega)) (Tr.gp (Lp_123_26 L3) (Tr.ca (La_140 L3 hp) (Tr.nmx (Tr.nmx (hk' _ ⟨r2, nI_1 p, F2.tr F3⟩)))))
    · rw [if_neg c] at em
      subst em
      exact Tr.pos (nI_le (a := y) (b := z) (by omega) (by omega)) (Tr.nmx (hk' _ ⟨rfl, nI_1 p, F2.tr F3⟩))
  · intro x kk hJ
    obtain ⟨x1, x2, h2⟩ := x
    obtain ⟨ea, eb, F2⟩ := hJ
    dsimp only at ea eb F2
    have K2 : EFr h1 h2 := EFr.of F2 (fun a x => by omega)
    have er : x1 = nI (rdsN F) := ea
    rw [eb]
    exact Tr.pos (nI_le (b := 64) (Nat.le_refl _) (by decide)) (Tr.ret ⟨er, K2.mi M1, q.1.mA.tr K2.mA⟩)
end REF

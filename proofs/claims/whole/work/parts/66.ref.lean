/-! THE REFERENCE: combining and modifying -/
theorem bit_ix (x : Int32) : bit x = ix 2 x := by
  rcases ix_cases 2 (by decide) x with ⟨e, c⟩ | ⟨s, hs, rfl, e⟩
  · rw [e]
    unfold bit
    rw [if_neg (by rintro rfl; revert c; decide), if_neg (by rintro rfl; revert c; decide)]
  · rw [e]
    rcases (by omega : s = 0 ∨ s = 1) with rfl | rfl <;> rfl
section REF
variable {h : Hp} {G : St}
theorem X10_ob {α : Type} {Q : α → Hp → Prop} {A B : Hp → Option (α × Hp)} (x : Int32) (hA : bit x = none → Tr (A h) Q) (hB : ∀ o, o < 2 → x = nI o → bit x = some o → Tr (B h) Q) : Tr (bd (f_X10_within x 0 1 h) fun v h2 => if v = 0 then A h2 else B h2) Q := by
  rw [bit_ix] at hA hB
  rcases ix_cases 2 (by decide) x with ⟨e, c⟩ | ⟨s, hs, e, e2⟩
  · exact Tr.be ((X10_within x (n := 1) (by decide) h).1 e) (Tr.pos rfl (hA e))
  · exact Tr.be ((X10_within x (n := 1) (by decide) h).2 s e hs) (Tr.neg (by decide) (hB s hs e e2))
theorem MkR.nil : MkR (sI h 123 7 0) [] := ⟨by rw [gI_sI, upd_eq]; rfl, fun i hi => absurd hi (Nat.not_lt_zero _)⟩
theorem KFr.start : KFr h (sI h 123 7 0) := ⟨Fr.sI (Or.inl rfl), fun i hi => by rw [gI_sI, upd_ne hi]⟩
theorem KFr.mA {h1 : Hp} (K : KFr h h1) : Fr mA h h1 := K.1.wk (fun a x => by unfold kW at x; show 123 ≤ a; omega)
theorem MP.tr {α : Type} {h1 h2 : Hp} {a : α × St} {r : α} (F : Fr mA h h1) (q : MP h1 a r h2) : MP h a r h2 := ⟨q.1, q.2.1, F.tr q.2.2⟩
theorem X10_combine (M : MI h G) (o x y z : Int32) : Tr (f_X10_combine 123 o x y z h) (MP h (aCombine G o x y z)) := by
  unfold aCombine
  refine X10_ob o (fun e => ?_) (fun o ho e e2 => ?_)
  · rw [e]; exact X10_fl M (by decide) (by decide)
  rw [e2, e]
  refine X10_os x (fun e => ?_) (fun s hs e e2 => ?_)
  · rw [e]; exact X10_fl M (by decide) (by decide)
  rw [e2, e]
  refine X10_os y (fun e => ?_) (fun t ht e e2 => ?_)
  · rw [e]; exact X10_fl M (by decide) (by decide)
  rw [e2, e]
  refine X10_os z (fun e => ?_) (fun u hu e e2 => ?_)
  · rw [e]; exact X10_fl M (by decide) (by decide)
  rw [e2, e]
  dsimp only
  have L := M.1
  have Ws := (M.slot hs).1
  have Wt := (M.slot ht).1
  have s60 := Ws.2.2.1
  have t60 := Wt.2.2.1
  have P2 : Pre (G.2.2.1 s ++ G.2.2.1 t) 2 := Ws.pre.app Wt.pre
  have hv : vcd (64 + 16 * o) = true := by
    rcases (by omega : o = 0 ∨ o = 1) with rfl | rfl <;> rfl
  have ha : ar (64 + 16 * o) = 2 := by unfold ar; rw [if_neg (by omega), if_pos (by omega)]
  have P3 : Pre (G.2.2.1 s ++ G.2.2.1 t ++ [64 + 16 * o]) 1 := by
    have := P2.snoc hv (by omega)
    rwa [ha] at this
  have hlen : (G.2.2.1 s ++ G.2.2.1 t ++ [64 + 16 * o]).length = (G.2.2.1 s).length + (G.2.2.1 t).length + 1 := by
    simp only [List.length_append, List.length_singleton]
  refine Tr.ck (Lo_123 L) (Tr.gp (Lp_123_0 L) (Tr.ca (La_124 L (by omega)) (Tr.gp (Lp_123_0 L) (Tr.ca (La_124 L (by omega)) ?_))))
  rw [nI_clamp (by omega), nI_clamp (by omega), (M.slot hs).2.1, (M.slot ht).2.1, nI_add]
  unfold aStore
  by_cases c : (G.2.2.1 s ++ G.2.2.1 t ++ [64 + 16 * o]).length ≤ 60
  · rw [if_pos c]
    have K0 : KFr h (sI h 123 7 0) := KFr.start
    have M0 := K0.mi M
    refine Tr.pos (nI_lt (b := 60) (by omega) (by decide)) (Tr.bd (X10_copies M0 hs MkR.nil (by simp)) (fun _ h1 q1 => ?_))
    obtain ⟨k1, K1⟩ := q1
    rw [List.nil_append] at k1
    have M1 := K1.mi M0
    refine Tr.ck (Lo_123 M1.1) (Tr.bd (X10_copies M1 ht k1 (by omega)) (fun _ h2 q2 => ?_))
    obtain ⟨k2, K2⟩ := q2
    have M2 := K2.mi M1
    have es : (50 : Int32) + nI o = nI (sg (64 + 16 * o)) := by
      rcases (by omega : o = 0 ∨ o = 1) with rfl | rfl <;> rfl
    rw [es]
    refine Tr.ck (Lo_123 M2.1) (Tr.bd (X10_makes M2.1 k2 (by rw [List.length_append]; omega) _) (fun _ h3 q3 => ?_))
    obtain ⟨k3, K3⟩ := q3
    have M3 := K3.mi M2
    exact Tr.ck (Lo_123 M3.1) (Tr.bd (X10_keeps M3 hu P3 c k3) (fun v h4 q4 => Tr.ret (MP.tr (((K0.tr K1).tr K2).tr K3).mA q4)))
  · rw [if_neg c]
    refine Tr.neg (nI_nlt (b := 60) (by omega) (by omega)) (Tr.be (X10_fails L (e := 2) (by decide) (by decide)) (Tr.ret ⟨rfl, M.errs (by decide), Fr.sI (by show 123 ≤ 126; decide)⟩))
theorem X10_md50 (M : MI h G) {h0 : Hp} (F0 : Fr mA h0 h) {s u o : Nat} (hs : s < 4) (hu : u < 4) (ho : o < 2) : Tr (f_X10_modify_50 123 (nI o) (nI s) (nI u) h) (MP h0 (aStore G u (G.2.2.1 s ++ [96 + 16 * o]))) := by
  have L := M.1
  have Ws := (M.slot hs).1
  have s60 := Ws.2.2.1
  have hv : vcd (96 + 16 * o) = true := by
    rcases (by omega : o = 0 ∨ o = 1) with rfl | rfl <;> rfl
  have ha : ar (96 + 16 * o) = 1 := by unfold ar; rw [if_neg (by omega), if_neg (by omega), if_pos (by omega)]
  have P3 : Pre (G.2.2.1 s ++ [96 + 16 * o]) 1 := by
    have := Ws.pre.snoc hv (by omega)
    rwa [ha] at this
  have hlen : (G.2.2.1 s ++ [96 + 16 * o]).length = (G.2.2.1 s).length + 1 := by
    simp only [List.length_append, List.length_singleton]
  refine Tr.ck (Lo_123 L) (Tr.gp (Lp_123_0 L) (Tr.ca (La_124 L (by omega)) ?_))
  rw [nI_clamp (by omega), (M.slot hs).2.1]
  unfold aStore
  by_cases c : (G.2.2.1 s ++ [96 + 16 * o]).length ≤ 60
  · rw [if_pos c]
    have K0 : KFr h (sI h 123 7 0) := KFr.start
    have M0 := K0.mi M
    refine Tr.pos (nI_lt (b := 60) (by omega) (by decide)) (Tr.bd (X10_copies M0 hs MkR.nil (by simp)) (fun _ h1 q1 => ?_))
    obtain ⟨k1, K1⟩ := q1
    rw [List.nil_append] at k1
    have M1 := K1.mi M0
    have es : (52 : Int32) + nI o = nI (sg (96 + 16 * o)) := by
      rcases (by omega : o = 0 ∨ o = 1) with rfl | rfl <;> rfl
    rw [es]
    refine Tr.ck (Lo_123 M1.1) (Tr.bd (X10_makes M1.1 k1 (by omega) _) (fun _ h3 q3 => ?_))
    obtain ⟨k3, K3⟩ := q3
    have M3 := K3.mi M1
    exact Tr.ck (Lo_123 M3.1) (Tr.bd (X10_keeps M3 hu P3 c k3) (fun v h4 q4 => Tr.ret (MP.tr (F0.tr ((K0.tr K1).tr K3).mA) q4)))
  · rw [if_neg c]
    refine Tr.neg (nI_nlt (b := 60) (by omega) (by omega)) (Tr.be (X10_fails L (e := 2) (by decide) (by decide)) (Tr.ret ⟨rfl, M.errs (by decide), F0.tr (Fr.sI (by show 123 ≤ 126; decide))⟩))
theorem X10_modify (M : MI h G) (o x z : Int32) : Tr (f_X10_modify 123 o x z h) (MP h (aModify G o x z)) := by
  unfold aModify
  refine X10_ob o (fun e => ?_) (fun o ho e e2 => ?_)
  · rw [e]; exact X10_fl M (by decide) (by decide)
  rw [e2, e]
  refine X10_os x (fun e => ?_) (fun s hs e e2 => ?_)
  · rw [e]; exact X10_fl M (by decide) (by decide)
  rw [e2, e]
  refine X10_os z (fun e => ?_) (fun u hu e e2 => ?_)
  · rw [e]; exact X10_fl M (by decide) (by decide)
  rw [e2, e]
  dsimp only
  have L := M.1
  rcases (by omega : o = 0 ∨ o = 1) with rfl | rfl
  · rw [show ∀ a b : Int32 × St, (if 0 = 1 ∧ prd (G.2.2.1 s) = false then a else b) = b from fun a b => if_neg (fun z => absurd z.1 (by decide))]
    exact Tr.neg (by decide) (X10_md50 M Fr.rf hs hu (by decide))
  · refine Tr.pos rfl (Tr.ck (Lo_123 L) (Tr.bd (X10_isPredicateRow M hs) (fun r h1 q => ?_)))
    obtain ⟨rfl, M1, F1⟩ := q
    cases hp : prd (G.2.2.1 s) with
    | false =>
      rw [show ∀ a b : Int32 × St, (if 1 = 1 ∧ false = false then a else b) = a from fun a b => if_pos ⟨rfl, rfl⟩]
      exact Tr.pos rfl (Tr.imp (X10_fl (e := 1) (f := fun v => v) M1 (by decide) (by decide)) (fun v h2 q => MP.tr F1 q))
    | true =>
      rw [show ∀ a b : Int32 × St, (if 1 = 1 ∧ true = false then a else b) = b from fun a b => if_neg (fun z => absurd z.2 (by decide))]
      exact Tr.neg (by decide) (X10_md50 M1 F1 hs hu (by decide))
end REF

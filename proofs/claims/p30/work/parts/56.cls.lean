/-! THE CLASS'S QUERIES -/
section CLQ
variable {h : Hp} {G : St}
theorem X9_os {α : Type} {Q : α → Hp → Prop} {A B : Hp → Option (α × Hp)} (x : Int32) (hA : sl x = none → Tr (A h) Q) (hB : ∀ s, s < 4 → x = nI s → sl x = some s → Tr (B h) Q) : Tr (bd (f_X9_isSlot x h) fun v h2 => if v = 0 then A h2 else B h2) Q := by
  rcases sl_cases x with ⟨e, c⟩ | ⟨s, hs, e, e2⟩
  · exact Tr.be (X9_slN c h) (Tr.pos rfl (hA e))
  · rw [e]
    exact Tr.be (X9_slY hs h) (Tr.neg (by decide) (hB s hs e e2))
theorem X9_op {α : Type} {Q : α → Hp → Prop} {A B : Hp → Option (α × Hp)} (x : Int32) (hA : pk x = none → Tr (A h) Q) (hB : ∀ s, s < 64 → x = nI s → pk x = some s → Tr (B h) Q) : Tr (bd (f_X9_isPacket x h) fun v h2 => if v = 0 then A h2 else B h2) Q := by
  rcases pk_cases x with ⟨e, c⟩ | ⟨s, hs, e, e2⟩
  · exact Tr.be (X9_pkN c h) (Tr.pos rfl (hA e))
  · rw [e]
    exact Tr.be (X9_isPacket hs h) (Tr.neg (by decide) (hB s hs e e2))
theorem Drv.two {h1 h2 : Hp} {s t : Nat} (D1 : Drv h1 s (G.2.2.1 s)) (F2 : Fr (upR t) h1 h2) (D2 : Drv h2 t (G.2.2.1 t)) : Drv h2 s (G.2.2.1 s) := by
  by_cases e : s = t
  · subst e; exact D2
  · exact D1.fr F2 (fun a x y z w => by unfold upR at w; omega)
def aSize (G : St) (x : Int32) : Int32 × St := oneQ G x (-2) (fun l => nI l.length)
def aIsP (G : St) (x : Int32) : Int32 × St := oneQ G x (-2) (fun l => bi (prd l))
def aPrinted (G : St) (x i : Int32) : Int32 × St := match sl x with
  | none => (-2, failS G 0)
  | some s => if (-1 : Int32) ≤ i then (if i = -1 then nI (prS (G.2.2.1 s)).length else if nI (prS (G.2.2.1 s)).length ≤ i then -1 else nI ((prS (G.2.2.1 s)).getD i.toNatClampNeg 0), G) else (-2, failS G 0)
noncomputable def aOutputs (G : St) (x y : Int32) : Int64 × St := match sl x with
  | none => (-2, failS G 0)
  | some s => match pk y with
    | none => (-2, failS G 0)
    | some p => (evI (G.2.2.1 s) p, G)
noncomputable def aAccepted (G : St) (x : Int32) : Int64 × St := oneQ G x (-2) (fun l => domI (evI l))
noncomputable def aSpread (G : St) (x : Int32) : Int32 × St := oneQ G x (-2) (fun l => nI (widN (evI l)))
noncomputable def aRounds (G : St) (x : Int32) : Int32 × St := oneQ G x (-2) (fun l => nI (rdsN (evI l)))
noncomputable def aCompare (G : St) (x y : Int32) : Int32 × St := twoQ G x y (-2) (fun l m => ordN (evI l) (evI m))
noncomputable def aWitness (G : St) (x y : Int32) : Int32 × St := twoQ G x y (-2) (fun l m => witN (evI l) (evI m))
noncomputable def aDifference (G : St) (x y : Int32) : Int32 × St := twoQ G x y (-2) (fun l m => difF (evI l) (evI m))
theorem X9_size (C : CI h G) (x : Int32) : Tr (f_X9_size 1 x h) (CP h (aSize G x)) := by
  unfold aSize oneQ
  refine X9_os x (fun e => ?_) (fun s hs e e2 => ?_)
  · rw [e]; exact X9_fl C (by decide) (by decide)
  · rw [e2, e]
    have L := C.1
    have P := (C.slot hs).1
    refine Tr.ck (Lo_1 L) (Tr.gp (Lp_1_2 L) (Tr.ca (La_3 L hs) ?_))
    rw [nI_clamp (by omega)]
    exact Tr.gp (Lp_3 L hs) (Tr.ck (Lso_35 L hs) (Tr.be (X7_policy L hs) (Tr.ck (Lso_36 L hs) (Tr.be (X4_nodeCount L (PA_s hs) P) (Tr.ret ⟨rfl, C, Fr.rf⟩)))))
theorem X9_isPredicate (C : CI h G) (x : Int32) : Tr (f_X9_isPredicate 1 x h) (CP h (aIsP G x)) := by
  unfold aIsP oneQ
  refine X9_os x (fun e => ?_) (fun s hs e e2 => ?_)
  · rw [e]; exact X9_fl C (by decide) (by decide)
  · rw [e2, e]
    have L := C.1
    have P := (C.slot hs).1
    refine Tr.ck (Lo_1 L) (Tr.gp (Lp_1_2 L) (Tr.ca (La_3 L hs) ?_))
    rw [nI_clamp (by omega)]
    refine Tr.gp (Lp_3 L hs) (Tr.ck (Lso_35 L hs) (Tr.be (X7_policy L hs) (Tr.ck (Lso_36 L hs) (Tr.be (X4_givesPredicate L (PA_s hs) P) ?_))))
    show Tr _ (CP h (bi (prd (G.2.2.1 s)), G))
    cases prd (G.2.2.1 s) with
    | false => exact Tr.pos rfl (Tr.ret ⟨rfl, C, Fr.rf⟩)
    | true => exact Tr.neg (by decide) (Tr.ret ⟨rfl, C, Fr.rf⟩)
theorem X5_byteCount (L : Lay h) {s : Nat} (hs : s < 4) {l : List Nat} (D : Drv h s l) : f_X5_byteCount (39 + 22 * s) h = some (nI (prS l).length, h) := Tr.of_eq (Tr.ck (Lso_39 L hs) (Tr.ret ⟨D.1, rfl⟩))
theorem X5_byteAt (L : Lay h) {s : Nat} (hs : s < 4) {l : List Nat} (D : Drv h s l) (hlen : (prS l).length ≤ 360) {i : Nat} (hi : i < (prS l).length) : f_X5_byteAt (39 + 22 * s) (nI i) h = some (nI ((prS l).getD i 0), h) := by
  apply Tr.of_eq
  refine Tr.neg (nI_pos (by omega)) (Tr.ck (Lso_39 L hs) ?_)
  rw [D.1]
  refine Tr.neg (nI_ge (b := (prS l).length) hi (by omega)) (Tr.neg (nI_ge (b := 360) (by omega) (by decide)) (Tr.gp (Lsp_39_0 L hs) (Tr.ca (Lsa_40 L hs (by omega)) (Tr.ret ⟨?_, rfl⟩))))
  rw [nI_clamp (by omega)]
  exact D.2.1 i hi
theorem X9_printed (C : CI h G) (x i : Int32) : Tr (f_X9_printed 1 x i h) (CP h (aPrinted G x i)) := by
  unfold aPrinted
  refine X9_os x (fun e => ?_) (fun s hs e e2 => ?_)
  · rw [e]; exact X9_fl C (by decide) (by decide)
  · rw [e2, e]
    show Tr _ (CP h (if (-1 : Int32) ≤ i then (if i = -1 then nI (prS (G.2.2.1 s)).length else if nI (prS (G.2.2.1 s)).length ≤ i then -1 else nI ((prS (G.2.2.1 s)).getD i.toNatClampNeg 0), G) else (-2, failS G 0)))
    by_cases h1 : (-1 : Int32) ≤ i
    · have E : (if (-1 : Int32) ≤ i then ((if i = -1 then nI (prS (G.2.2.1 s)).length else if nI (prS (G.2.2.1 s)).length ≤ i then -1 else nI ((prS (G.2.2.1 s)).getD i.toNatClampNeg 0), G) : Int32 × St) else (-2, failS G 0)) = (if i = -1 then nI (prS (G.2.2.1 s)).length else if nI (prS (G.2.2.1 s)).length ≤ i then -1 else nI ((prS (G.2.2.1 s)).getD i.toNatClampNeg 0), G) := if_pos h1
      rw [E]
      have hlen : (prS (G.2.2.1 s)).length ≤ 358 := prS_len (C.slot hs).2.1
      refine Tr.pos h1 (X9_up C hs (fun h2 C2 D2 F2 => ?_))
      have L2 := C2.1
      refine Tr.ck (Lso_35 L2 hs) (Tr.be (X7_printout L2 hs) ?_)
      by_cases h3 : i = -1
      · have E2 : (if i = -1 then nI (prS (G.2.2.1 s)).length else if nI (prS (G.2.2.1 s)).length ≤ i then -1 else nI ((prS (G.2.2.1 s)).getD i.toNatClampNeg 0)) = nI (prS (G.2.2.1 s)).length := if_pos h3
        rw [E2]
        exact Tr.pos h3 (Tr.ck (Lso_39 L2 hs) (Tr.be (X5_byteCount L2 hs D2) (Tr.ret ⟨rfl, C2, F2.wk (upR_cA hs)⟩)))
      · have E2 : (if i = -1 then nI (prS (G.2.2.1 s)).length else if nI (prS (G.2.2.1 s)).length ≤ i then -1 else nI ((prS (G.2.2.1 s)).getD i.toNatClampNeg 0)) = if nI (prS (G.2.2.1 s)).length ≤ i then -1 else nI ((prS (G.2.2.1 s)).getD i.toNatClampNeg 0) := if_neg h3
        rw [E2]
        refine Tr.neg h3 (Tr.ck (Lso_39 L2 hs) (Tr.be (X5_byteCount L2 hs D2) ?_))
        by_cases h4 : nI (prS (G.2.2.1 s)).length ≤ i
        · have E3 : (if nI (prS (G.2.2.1 s)).length ≤ i then (-1 : Int32) else nI ((prS (G.2.2.1 s)).getD i.toNatClampNeg 0)) = -1 := if_pos h4
          rw [E3]
          exact Tr.pos h4 (Tr.ret ⟨rfl, C2, F2.wk (upR_cA hs)⟩)
        · have E3 : (if nI (prS (G.2.2.1 s)).length ≤ i then (-1 : Int32) else nI ((prS (G.2.2.1 s)).getD i.toNatClampNeg 0)) = nI ((prS (G.2.2.1 s)).getD i.toNatClampNeg 0) := if_neg h4
          rw [E3]
          obtain ⟨k, hk, rfl⟩ : ∃ k, k < (prS (G.2.2.1 s)).length ∧ i = nI k := by
            rcases pk_ix i (n := (prS (G.2.2.1 s)).length) (by omega) with c | c | ⟨k, hk, e5⟩
            · exfalso
              rw [Int32.lt_iff_toInt_lt] at c
              rw [Int32.le_iff_toInt_le] at h1
              have z0 : (0 : Int32).toInt = 0 := rfl
              have z1 : (-1 : Int32).toInt = -1 := rfl
              exact h3 (Int32.toInt_inj.mp (by omega))
            · exact absurd c h4
            · exact ⟨k, hk, e5⟩
          rw [nI_clamp (by omega)]
          exact Tr.neg h4 (Tr.ck (Lso_39 L2 hs) (Tr.be (X5_byteAt L2 hs D2 (by omega) hk) (Tr.ret ⟨rfl, C2, F2.wk (upR_cA hs)⟩)))
    · have E : (if (-1 : Int32) ≤ i then ((if i = -1 then nI (prS (G.2.2.1 s)).length else if nI (prS (G.2.2.1 s)).length ≤ i then -1 else nI ((prS (G.2.2.1 s)).getD i.toNatClampNeg 0), G) : Int32 × St) else (-2, failS G 0)) = (-2, failS G 0) := if_neg h1
      rw [E]
      exact Tr.neg h1 (X9_fl C (by decide) (by decide))
theorem X9_outputs (C : CI h G) (x y : Int32) : Tr (f_X9_outputs 1 x y h) (CP h (aOutputs G x y)) := by
  unfold aOutputs
  refine X9_os x (fun e => ?_) (fun s hs e e2 => ?_)
  · rw [e]; exact X9_fl (f := Int32.toInt64) C (by decide) (by decide)
  · rw [e2, e]
    refine X9_op y (fun e3 => ?_) (fun p hp e3 e4 => ?_)
    · rw [e3]; exact X9_fl (f := Int32.toInt64) C (by decide) (by decide)
    · rw [e4, e3]
      refine X9_up C hs (fun h2 C2 D2 F2 => ?_)
      have L2 := C2.1
      exact Tr.ck (Lso_35 L2 hs) (Tr.be (X7_relation L2 hs) (Tr.ck (Lso_44 L2 hs) (Tr.be (X6_imageOf L2 hs hp) (Tr.ret ⟨D2.2.2.1 p hp, C2, F2.wk (upR_cA hs)⟩))))
theorem X9_accepted (C : CI h G) (x : Int32) : Tr (f_X9_accepted 1 x h) (CP h (aAccepted G x)) := by
  unfold aAccepted oneQ
  refine X9_os x (fun e => ?_) (fun s hs e e2 => ?_)
  · rw [e]; exact X9_fl (f := Int32.toInt64) C (by decide) (by decide)
  · rw [e2, e]
    refine X9_up C hs (fun h2 C2 D2 F2 => ?_)
    have L2 := C2.1
    exact Tr.ck (Lso_35 L2 hs) (Tr.be (X7_relation L2 hs) (Tr.ck (Lso_44 L2 hs) (Tr.be (X6_domain L2 hs) (Tr.ret ⟨domI_congr D2.2.2.1, C2, F2.wk (upR_cA hs)⟩))))
theorem X9_spread (C : CI h G) (x : Int32) : Tr (f_X9_spread 1 x h) (CP h (aSpread G x)) := by
  unfold aSpread oneQ
  refine X9_os x (fun e => ?_) (fun s hs e e2 => ?_)
  · rw [e]; exact X9_fl C (by decide) (by decide)
  · rw [e2, e]
    refine X9_up C hs (fun h2 C2 D2 F2 => ?_)
    have L2 := C2.1
    exact Tr.ck (Lso_35 L2 hs) (Tr.be (X7_relation L2 hs) (Tr.ck (Lso_44 L2 hs) (Tr.be (X6_widest L2 hs) (Tr.ret ⟨by rw [widN_congr D2.2.2.1], C2, F2.wk (upR_cA hs)⟩))))
theorem X9_rounds (C : CI h G) (x : Int32) : Tr (f_X9_rounds 1 x h) (CP h (aRounds G x)) := by
  unfold aRounds oneQ
  refine X9_os x (fun e => ?_) (fun s hs e e2 => ?_)
  · rw [e]; exact X9_fl C (by decide) (by decide)
  · rw [e2, e]
    refine X9_up C hs (fun h2 C2 D2 F2 => ?_)
    have L2 := C2.1
    exact Tr.ck (Lso_35 L2 hs) (Tr.be (X7_relation L2 hs) (Tr.ck (Lso_44 L2 hs) (Tr.be (X6_mostSteps L2 hs) (Tr.ret ⟨by rw [rdsN_congr D2.2.2.1], C2, F2.wk (upR_cA hs)⟩))))
/-- two slots brought up to date -/
theorem X9_tw {α : Type} {A A2 B : Hp → Option (α × Hp)} {f : List Nat → List Nat → α} {d : α} (x y : Int32) (hA : Tr (A h) (CP h (d, failS G 0))) (hA2 : Tr (A2 h) (CP h (d, failS G 0))) (hB : ∀ s t, s < 4 → t < 4 → x = nI s → y = nI t → Tr (B h) (CP h (f (G.2.2.1 s) (G.2.2.1 t), G))) : Tr (bd (f_X9_isSlot x h) fun v h2 => if v = 0 then A h2 else bd (f_X9_isSlot y h2) fun v h2 => if v = 0 then A2 h2 else B h2) (CP h (twoQ G x y d f)) := by
  unfold twoQ
  refine X9_os x (fun e => ?_) (fun s hs e e2 => ?_)
  · rw [e]; exact hA
  · rw [e2]
    refine X9_os y (fun e3 => ?_) (fun t ht e3 e4 => ?_)
    · rw [e3]; exact hA2
    · rw [e4]; exact hB s t hs ht e e3
theorem X9_compare (C : CI h G) (x y : Int32) : Tr (f_X9_compare 1 x y h) (CP h (aCompare G x y)) := by
  unfold aCompare
  refine X9_tw x y (X9_fl C (by decide) (by decide)) (X9_fl C (by decide) (by decide)) (fun s t hs ht e1 e2 => ?_)
  rw [e1, e2]
  refine X9_up C hs (fun h1 C1 D1 F1 => Tr.ck (Lso_35 C1.1 hs) (Tr.be (X7_relation C1.1 hs) (X9_up C1 ht (fun h2 C2 D2 F2 => ?_))))
  have L2 := C2.1
  have D3 := D1.two F2 D2
  exact Tr.ck (Lso_35 L2 ht) (Tr.be (X7_relation L2 ht) (Tr.ck (Lso_44 L2 hs) (Tr.be (X6_orderTo L2 hs ht) (Tr.ret ⟨ordN_congr D3.2.2.1 D2.2.2.1, C2, (F1.wk (upR_cA hs)).tr (F2.wk (upR_cA ht))⟩))))
theorem X9_witness (C : CI h G) (x y : Int32) : Tr (f_X9_witness 1 x y h) (CP h (aWitness G x y)) := by
  unfold aWitness
  refine X9_tw x y (X9_fl C (by decide) (by decide)) (X9_fl C (by decide) (by decide)) (fun s t hs ht e1 e2 => ?_)
  rw [e1, e2]
  refine X9_up C hs (fun h1 C1 D1 F1 => Tr.ck (Lso_35 C1.1 hs) (Tr.be (X7_relation C1.1 hs) (X9_up C1 ht (fun h2 C2 D2 F2 => ?_))))
  have L2 := C2.1
  have D3 := D1.two F2 D2
  refine Tr.ck (Lso_35 L2 ht) (Tr.be (X7_relation L2 ht) (Tr.ck (Lso_44 L2 hs) (Tr.be (X6_firstUnlike L2 hs ht) ?_)))
  rw [witN_congr D3.2.2.1 D2.2.2.1]
  show Tr _ (CP h (witN (evI (G.2.2.1 s)) (evI (G.2.2.1 t)), G))
  generalize witN (evI (G.2.2.1 s)) (evI (G.2.2.1 t)) = w
  exact Tr.ret ⟨rfl, C2, (F1.wk (upR_cA hs)).tr (F2.wk (upR_cA ht))⟩
theorem X9_difference (C : CI h G) (x y : Int32) : Tr (f_X9_difference 1 x y h) (CP h (aDifference G x y)) := by
  unfold aDifference
  refine X9_tw x y (X9_fl C (by decide) (by decide)) (X9_fl C (by decide) (by decide)) (fun s t hs ht e1 e2 => ?_)
  rw [e1, e2]
  refine X9_up C hs (fun h1 C1 D1 F1 => Tr.ck (Lso_35 C1.1 hs) (Tr.be (X7_relation C1.1 hs) (X9_up C1 ht (fun h2 C2 D2 F2 => ?_))))
  have L2 := C2.1
  have D3 := D1.two F2 D2
  refine Tr.ck (Lso_35 L2 ht) (Tr.be (X7_relation L2 ht) (Tr.ck (Lso_44 L2 hs) (Tr.be (X6_firstUnlike L2 hs ht) ?_)))
  rw [witN_congr D3.2.2.1 D2.2.2.1]
  have FF := (F1.wk (upR_cA hs)).tr (F2.wk (upR_cA ht))
  by_cases hu : unlN (evI (G.2.2.1 s)) (evI (G.2.2.1 t)) < 64
  · have e5 : witN (evI (G.2.2.1 s)) (evI (G.2.2.1 t)) = nI (unlN (evI (G.2.2.1 s)) (evI (G.2.2.1 t))) := if_pos hu
    have e6 : difF (evI (G.2.2.1 s)) (evI (G.2.2.1 t)) = lowF (evI (G.2.2.1 s) (unlN (evI (G.2.2.1 s)) (evI (G.2.2.1 t))) ^^^ evI (G.2.2.1 t) (unlN (evI (G.2.2.1 s)) (evI (G.2.2.1 t)))) := if_pos hu
    rw [e5, e6]
    refine Tr.neg (fun z => nI_pos (n := unlN (evI (G.2.2.1 s)) (evI (G.2.2.1 t))) (by omega) (by rw [z]; decide)) (Tr.ck (Lso_44 L2 hs) (Tr.be (X6_imageOf L2 hs hu) (Tr.ck (Lso_44 L2 ht) (Tr.be (X6_imageOf L2 ht hu) ?_))))
    rw [D3.2.2.1 _ hu, D2.2.2.1 _ hu]
    exact Tr.be (lowestOf_eq _ _) (Tr.ret ⟨rfl, C2, FF⟩)
  · have e5 : witN (evI (G.2.2.1 s)) (evI (G.2.2.1 t)) = -1 := if_neg hu
    have e6 : difF (evI (G.2.2.1 s)) (evI (G.2.2.1 t)) = -1 := if_neg hu
    rw [e5, e6]
    exact Tr.pos rfl (Tr.ret ⟨rfl, C2, FF⟩)
end CLQ

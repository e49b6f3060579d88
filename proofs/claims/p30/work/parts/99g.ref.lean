/-! THE LAW: refused calls -/
section LRF
variable {h0 h : Hp} {G : St}
theorem sl_m1 : sl (-1) = none := if_pos (by decide)
theorem sl_4 : sl 4 = none := by unfold sl; rw [if_neg (by decide), if_pos (by decide)]
theorem sl_0 : sl 0 = some 0 := sl_ok (s := 0) (by decide)
theorem bit_m1 : bit (-1) = none := by decide
theorem bit_0 : bit 0 = some 0 := by decide
theorem pkm1 : pk (-1) = none := if_pos (by decide)
theorem ix_m1 (n : Nat) : ix n (-1) = none := if_pos (by decide)
theorem ix_30 : ix 3 0 = some 0 := ix_ok (n := 3) (k := 0) (by decide) (by decide)
theorem m1_0 : ((-1 : Int32) ≤ 0) = True := eq_true (by decide)
def fails (G : St) : Nat → St
  | 0 => G
  | n + 1 => failS (fails G n) 0
theorem fails_slots : ∀ n, (fails G n).2.2.1 = G.2.2.1 := by
  intro n
  induction n with
  | zero => rfl
  | succ n ih => exact ih
theorem fails_err : ∀ n, (fails G n).2.2.2.1 0 = G.2.2.2.1 0 + nI n := by
  intro n
  induction n with
  | zero => exact (Int32.add_zero _).symm
  | succ n ih =>
    show va_up (fails G n).2.2.2.1 0 ((fails G n).2.2.2.1 0 + 1) 0 = _
    rw [upd_eq, ih, Int32.add_assoc, nI_1]
theorem err_2 : aErr G (-2) = (G.2.2.2.1 0, G) := by
  unfold aErr
  rw [if_neg (by decide), if_pos (by decide)]
  rfl
theorem no_append : aAppend G (-1) = ((-2 : Int32), failS G 0) := if_pos (by decide)
theorem no_parse : aParse G (-1) = ((-2 : Int32), failS G 0) := by simp only [aParse, sl_m1]
theorem no_combine : aCombine G (-1) 0 0 0 = ((-2 : Int32), failS G 0) := by simp only [aCombine, bit_m1]
theorem no_modify : aModify G 0 4 0 = ((-2 : Int32), failS G 0) := by simp only [aModify, bit_0, sl_0, sl_4]
theorem no_size : aSize G (-1) = ((-2 : Int32), failS G 0) := by simp only [aSize, oneQ, sl_m1]
theorem no_isPredicate : aIsP G 4 = ((-2 : Int32), failS G 0) := by simp only [aIsP, oneQ, sl_4]
theorem no_printed : aPrinted G (-1) 0 = ((-2 : Int32), failS G 0) := by simp only [aPrinted, sl_m1]
theorem no_outputs : aOutputs G 0 (-1) = ((-2 : Int64), failS G 0) := by simp only [aOutputs, sl_0, pkm1]
theorem no_accepted : aAccepted G 4 = ((-2 : Int64), failS G 0) := by simp only [aAccepted, oneQ, sl_4]
theorem no_spread : aSpread G (-1) = ((-2 : Int32), failS G 0) := by simp only [aSpread, oneQ, sl_m1]
theorem no_rounds : aRounds G 4 = ((-2 : Int32), failS G 0) := by simp only [aRounds, oneQ, sl_4]
theorem no_compare : aCompare G (-1) 0 = ((-2 : Int32), failS G 0) := by simp only [aCompare, twoQ, sl_m1]
theorem no_witness : aWitness G 0 4 = ((-2 : Int32), failS G 0) := by simp only [aWitness, twoQ, sl_0, sl_4]
theorem no_difference : aDifference G 0 (-1) = ((-2 : Int32), failS G 0) := by simp only [aDifference, twoQ, sl_0, sl_m1]
theorem no_diagramSize : aDSize G (-1) = ((-2 : Int32), failS G 0) := by simp only [aDSize, oneQ, sl_m1]
theorem no_leaves : aLeaves G 4 = ((-2 : Int32), failS G 0) := by simp only [aLeaves, oneQ, sl_4]
theorem no_diagramDepth : aDepth G 4 = ((-2 : Int32), failS G 0) := by simp only [aDepth, oneQ, sl_4]
theorem no_sharedNodes : aShared G (-1) 0 = ((-2 : Int32), failS G 0) := by simp only [aShared, twoQ, sl_m1]
theorem no_rows : aRows G 4 = ((-2 : Int32), failS G 0) := by simp only [aRows, oneQ, sl_4]
theorem no_match : aMatch G 0 (-1) 0 = ((-2 : Int32), failS G 0) := by simp only [aMatch, sl_0, ix_30, ix_m1]
theorem no_action : aAction G 0 (-1) 0 = ((-2 : Int32), failS G 0) := by simp only [aAction, sl_0, ix_m1, m1_0, if_true]
theorem no_hit : aHit G 0 (-1) = ((-2 : Int32), failS G 0) := by simp only [aHit, sl_0, pkm1]
theorem no_hits : aHits G 0 (-1) = ((-2 : Int32), failS G 0) := by simp only [aHits, sl_0, ix_m1]
theorem no_errorCount : aErr G 0 = ((-2 : Int32), failS G 0) := by unfold aErr; rw [if_neg (by decide), if_neg (by decide)]
theorem L_refused (W : WS h0 h G) : Tr (f_L_refused 1 h) (LOK h0 G.2.2.1) := by
  refine L_print W (fun h1 W1 => lce W1 (X9_errorCount W1.1 (-2)) err_2 (fun h2 W2 => ?_))
  have W2 : WS h0 h2 (fails G 0) := W2
  refine lce W2 (X9_append W2.1 (-1)) no_append (fun a0 V0 => Tr.pos rfl ?_)
  have V0 : WS h0 a0 (fails G 1) := V0
  refine lce V0 (X9_parse V0.1 (-1)) no_parse (fun a1 V1 => Tr.pos rfl ?_)
  have V1 : WS h0 a1 (fails G 2) := V1
  refine lce V1 (X9_combine V1.1 (-1) 0 0 0) no_combine (fun a2 V2 => Tr.pos rfl ?_)
  have V2 : WS h0 a2 (fails G 3) := V2
  refine lce V2 (X9_modify V2.1 0 4 0) no_modify (fun a3 V3 => Tr.pos rfl ?_)
  have V3 : WS h0 a3 (fails G 4) := V3
  refine lce V3 (X9_size V3.1 (-1)) no_size (fun a4 V4 => Tr.pos rfl ?_)
  have V4 : WS h0 a4 (fails G 5) := V4
  refine lce V4 (X9_isPredicate V4.1 4) no_isPredicate (fun a5 V5 => Tr.pos rfl ?_)
  have V5 : WS h0 a5 (fails G 6) := V5
  refine lce V5 (X9_printed V5.1 (-1) 0) no_printed (fun a6 V6 => Tr.pos rfl ?_)
  have V6 : WS h0 a6 (fails G 7) := V6
  refine lce V6 (X9_outputs V6.1 0 (-1)) no_outputs (fun a7 V7 => Tr.pos (lg_same _) ?_)
  have V7 : WS h0 a7 (fails G 8) := V7
  refine lce V7 (X9_accepted V7.1 4) no_accepted (fun a8 V8 => Tr.pos (lg_same _) ?_)
  have V8 : WS h0 a8 (fails G 9) := V8
  refine lce V8 (X9_spread V8.1 (-1)) no_spread (fun a9 V9 => Tr.pos rfl ?_)
  have V9 : WS h0 a9 (fails G 10) := V9
  refine lce V9 (X9_rounds V9.1 4) no_rounds (fun a10 V10 => Tr.pos rfl ?_)
  have V10 : WS h0 a10 (fails G 11) := V10
  refine lce V10 (X9_compare V10.1 (-1) 0) no_compare (fun a11 V11 => Tr.pos rfl ?_)
  have V11 : WS h0 a11 (fails G 12) := V11
  refine lce V11 (X9_witness V11.1 0 4) no_witness (fun a12 V12 => Tr.pos rfl ?_)
  have V12 : WS h0 a12 (fails G 13) := V12
  refine lce V12 (X9_difference V12.1 0 (-1)) no_difference (fun a13 V13 => Tr.pos rfl ?_)
  have V13 : WS h0 a13 (fails G 14) := V13
  refine lce V13 (X9_diagramSize V13.1 (-1)) no_diagramSize (fun a14 V14 => Tr.pos rfl ?_)
  have V14 : WS h0 a14 (fails G 15) := V14
  refine lce V14 (X9_leaves V14.1 4) no_leaves (fun a15 V15 => Tr.pos rfl ?_)
  have V15 : WS h0 a15 (fails G 16) := V15
  refine lce V15 (X9_diagramDepth V15.1 4) no_diagramDepth (fun a16 V16 => Tr.pos rfl ?_)
  have V16 : WS h0 a16 (fails G 17) := V16
  refine lce V16 (X9_sharedNodes V16.1 (-1) 0) no_sharedNodes (fun a17 V17 => Tr.pos rfl ?_)
  have V17 : WS h0 a17 (fails G 18) := V17
  refine lce V17 (X9_rows V17.1 4) no_rows (fun a18 V18 => Tr.pos rfl ?_)
  have V18 : WS h0 a18 (fails G 19) := V18
  refine lce V18 (X9_match V18.1 0 (-1) 0) no_match (fun a19 V19 => Tr.pos rfl ?_)
  have V19 : WS h0 a19 (fails G 20) := V19
  refine lce V19 (X9_action V19.1 0 (-1) 0) no_action (fun a20 V20 => Tr.pos rfl ?_)
  have V20 : WS h0 a20 (fails G 21) := V20
  refine lce V20 (X9_hit V20.1 0 (-1)) no_hit (fun a21 V21 => Tr.pos rfl ?_)
  have V21 : WS h0 a21 (fails G 22) := V21
  refine lce V21 (X9_hits V21.1 0 (-1)) no_hits (fun a22 V22 => Tr.pos rfl ?_)
  have V22 : WS h0 a22 (fails G 23) := V22
  refine lce V22 (X9_errorCount V22.1 0) no_errorCount (fun a23 V23 => Tr.pos rfl ?_)
  have V23 : WS h0 a23 (fails G 24) := V23
  refine Tr.neg (by decide) (lce V23 (X9_errorCount V23.1 (-2)) err_2 (fun h3 W3 => ?_))
  rw [fails_err]
  refine Tr.pos rfl (L_print W3 (fun h4 W4 => ?_))
  rw [fails_slots]
  exact Tr.pos (lg_same _) (Tr.ret ⟨rfl, _, W4, fails_slots 24⟩)
end LRF

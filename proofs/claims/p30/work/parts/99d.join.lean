/-! THE LAW: unions and sequences -/
section LJ
variable {h0 h : Hp} {G : St}
theorem bit_ok {o : Nat} (ho : o < 2) : bit (nI o) = some o := by
  rcases (by omega : o = 0 ∨ o = 1) with rfl | rfl <;> rfl
theorem sl_3 : sl 3 = some 3 := sl_ok (s := 3) (by decide)
theorem comb_ok {o a b t : Nat} (ho : o < 2) (ha : a < 4) (hb : b < 4) (ht : t < 4) : aCombine G (nI o) (nI a) (nI b) (nI t) = aStore G t (G.2.2.1 a ++ G.2.2.1 b ++ [64 + 16 * o]) := by simp only [aCombine, bit_ok ho, sl_ok ha, sl_ok hb, sl_ok ht]
theorem sto_fit {t : Nat} {m : List Nat} (h : m.length ≤ 60) : aStore G t m = (nI m.length, stoS G t m) := if_pos h
theorem sto_big {t : Nat} {m : List Nat} (h : ¬ m.length ≤ 60) : aStore G t m = (-4, failS G 2) := if_neg h
theorem WS.hist (W : WS h0 h G) : G.2.2.2.2.length ≤ 5 := by
  obtain ⟨_, pj, P⟩ := W.1.2.2.2.2.2.2
  exact P.2.2.1
theorem sav_len {Hs : List (Nat × List Nat)} {t : Nat} {l : List Nat} (hl : Hs.length ≤ 5) : 1 ≤ (hSave Hs t l).length ∧ (hSave Hs t l).length ≤ 5 := by
  unfold hSave
  rw [List.length_append, List.length_singleton]
  split
  · omega
  · rw [List.length_tail]; omega
theorem undo_sto {t : Nat} {m : List Nat} (hl : G.2.2.2.2.length ≤ 5) : ∃ n G', aUndo (stoS G t m) = (nI n, G') ∧ n ≤ 5 ∧ G'.2.2.1 = G.2.2.1 := by
  have e : (stoS G t m).2.2.2.2 = hSave G.2.2.2.2 t (G.2.2.1 t) := rfl
  have g : (hSave G.2.2.2.2 t (G.2.2.1 t)).getLast? = some (t, G.2.2.1 t) := by unfold hSave; rw [List.getLast?_append, List.getLast?_singleton]; rfl
  have hb := sav_len (t := t) (l := G.2.2.1 t) hl
  refine ⟨(hSave G.2.2.2.2 t (G.2.2.1 t)).length - 1, ((stoS G t m).1, (stoS G t m).2.1, va_up (stoS G t m).2.2.1 t (G.2.2.1 t), (stoS G t m).2.2.2.1, (stoS G t m).2.2.2.2.dropLast), ?_, by omega, ?_⟩
  · unfold aUndo
    rw [e, g]
  · funext k
    show va_up (va_up G.2.2.1 t m) t (G.2.2.1 t) k = G.2.2.1 k
    by_cases c : k = t
    · subst c; rw [upd_eq]
    · rw [upd_ne c, upd_ne c]
theorem jn84 (W : WS h0 h G) {o a b p : Nat} (ho : o < 2) (ha : a < 4) (hb : b < 4) (hp : p < 64) {x : Int64} (hx : x = evI (G.2.2.1 a ++ G.2.2.1 b ++ [64 + 16 * o]) p) : Tr (f_L_isJoined_84 1 (nI o) (nI a) (nI b) (nI p) (prL G.2.2.1 4) x h) (LOK h0 G.2.2.1) := by
  have Wa := W.wf ha
  have Wb := W.wf hb
  have la := Wa.2.2.1
  have lb := Wb.2.2.1
  have hlen : (G.2.2.1 a ++ G.2.2.1 b ++ [64 + 16 * o]).length = (G.2.2.1 a).length + (G.2.2.1 b).length + 1 := by simp only [List.length_append, List.length_singleton]
  have hpr := prd_two (o := o) ho Wa.pre Wb.pre
  have hcm := comb_ok (G := G) (t := 3) ho ha hb (by decide)
  generalize G.2.2.1 a ++ G.2.2.1 b ++ [64 + 16 * o] = m at hx hlen hpr hcm
  refine c_size W ha (fun h1 W1 => c_size W1 hb (fun h2 W2 => ?_))
  rw [nI_add, nI_1, ← hlen]
  refine Tr.nmx (c_isP W2 ha (fun h3 W3 => c_isP W3 hb (fun h4 W4 => ?_)))
  have key : ∀ c : Bool, c = prd m → Tr (f_L_isJoined_119 1 (nI o) (nI a) (nI b) (nI p) (prL G.2.2.1 4) x (nI m.length) (bi c) h4) (LOK h0 G.2.2.1) := by
    intro c hc
    by_cases hf : m.length ≤ 60
    · refine lce W4 (X9_combine W4.1 (nI o) (nI a) (nI b) (nI 3)) (hcm.trans (sto_fit hf)) (fun h5 W5 => ?_)
      refine Tr.pos (nI_le (b := 60) hf (by decide)) (Tr.pos rfl (c_outputs (s := 3) W5 (by decide) hp (fun h6 W6 => ?_)))
      have e3 : (stoS G 3 m).2.2.1 3 = m := show va_up G.2.2.1 3 m 3 = m from upd_eq
      rw [e3]
      refine Tr.pos (by rw [hx]; exact lg_same _) (c_isP (s := 3) W6 (by decide) (fun h7 W7 => ?_))
      rw [e3, ← hc]
      have fin : Tr (f_L_isJoined_196 1 (prL G.2.2.1 4) (bi c) (bi c) h7) (LOK h0 G.2.2.1) := by
        refine Tr.pos rfl ?_
        obtain ⟨n, G', eu, hn, es⟩ := undo_sto (t := 3) (m := m) W.hist
        refine lce W7 (X9_undo W7.1) eu (fun h8 W8 => Tr.neg (nI_pos (by omega)) (L_print W8 (fun h9 W9 => ?_)))
        rw [es]
        exact Tr.pos (lg_same _) (Tr.ret ⟨rfl, G', W9, es⟩)
      cases c with
      | false => exact Tr.pos rfl fin
      | true => exact Tr.neg (by decide) fin
    · refine lce W4 (X9_combine W4.1 (nI o) (nI a) (nI b) (nI 3)) (hcm.trans (sto_big hf)) (fun h5 W5 => ?_)
      refine Tr.neg (nI_ge (a := 60) (b := m.length) (by omega) (by omega)) (Tr.pos rfl (L_print W5 (fun h6 W6 => ?_)))
      exact Tr.pos (lg_same _) (Tr.ret ⟨rfl, _, W6, rfl⟩)
  cases e1 : prd (G.2.2.1 a) <;> cases e2 : prd (G.2.2.1 b) <;> rw [e1, e2] at hpr
  · exact Tr.neg (by decide) (key false (by rw [hpr]; rfl))
  · exact Tr.neg (by decide) (key false (by rw [hpr]; rfl))
  · exact Tr.neg (by decide) (key false (by rw [hpr]; rfl))
  · exact Tr.pos (by decide) (key true (by rw [hpr]; rfl))
theorem L_isJoined (W : WS h0 h G) {o a b p : Nat} (ho : o < 2) (ha : a < 4) (hb : b < 4) (hp : p < 64) : Tr (f_L_isJoined 1 (nI o) (nI a) (nI b) (nI p) h) (LOK h0 G.2.2.1) := by
  have Pa := (W.wf ha).pre
  have Pb := (W.wf hb).pre
  refine L_print W (fun h1 W1 => c_outputs W1 ha hp (fun h2 W2 => ?_))
  rcases (by omega : o = 0 ∨ o = 1) with rfl | rfl
  · refine Tr.pos rfl (c_outputs W2 hb hp (fun h3 W3 => Tr.nmx (Tr.unr (Tr.neg (show ¬ (64 : Int32) ≤ 0 by decide) (Tr.neg (show ¬ nI 0 = (1 : Int32) by decide) ?_)))))
    exact jn84 (o := 0) W3 ho ha hb hp (ev_uni Pa Pb p).symm
  · refine Tr.neg (by decide) ?_
    refine Tr.up (N := 64) (J := fun q (x : Int64 × Int32 × Hp) => x.1 = orF (evI (G.2.2.1 a) p) (evI (G.2.2.1 b)) q ∧ x.2.1 = nI q ∧ WS h0 x.2.2 G) ?_ ?_ (p := 0) ⟨rfl, rfl, W2⟩ (Nat.zero_le _) (by omega)
    · intro q x kk hq hJ hk'
      obtain ⟨x1, x2, h3⟩ := x
      obtain ⟨ea, eb, W3⟩ := hJ
      dsimp only at ea eb W3
      subst ea eb
      dsimp only
      refine Tr.neg (nI_ge (b := 64) hq (by decide)) (Tr.pos rfl (Tr.cs (fun c => ?_) (fun c => ?_)))
      · have c2 := (sar_1 hq).mp c
        refine c_outputs W3 hb hq (fun h4 W4 => Tr.nmx (Tr.nmx (hk' _ ⟨?_, nI_1 q, W4⟩)))
        show _ = orF (evI (G.2.2.1 a) p) (evI (G.2.2.1 b)) q ||| (if bq (evI (G.2.2.1 a) p) q = true then evI (G.2.2.1 b) q else 0)
        rw [if_pos c2]
      · have c2 : ¬ bq (evI (G.2.2.1 a) p) q = true := fun z => c ((sar_1 hq).mpr z)
        refine Tr.nmx (Tr.nmx (hk' _ ⟨?_, nI_1 q, W3⟩))
        show _ = orF (evI (G.2.2.1 a) p) (evI (G.2.2.1 b)) q ||| (if bq (evI (G.2.2.1 a) p) q = true then evI (G.2.2.1 b) q else 0)
        rw [if_neg c2]
    · intro x kk hJ
      obtain ⟨x1, x2, h3⟩ := x
      obtain ⟨ea, eb, W3⟩ := hJ
      dsimp only at ea eb W3
      subst ea eb
      dsimp only
      exact Tr.pos (nI_le (b := 64) (Nat.le_refl _) (by decide)) (jn84 (o := 1) W3 ho ha hb hp (ev_seq Pa Pb p).symm)
end LJ

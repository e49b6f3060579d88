/-! THE LAW: repetitions and negations -/
section LCH
variable {h0 h : Hp} {G : St}
theorem mod_ok {o a t : Nat} (ho : o < 2) (ha : a < 4) (ht : t < 4) : aModify G (nI o) (nI a) (nI t) = if o = 1 ∧ prd (G.2.2.1 a) = false then (-3, failS G 1) else aStore G t (G.2.2.1 a ++ [96 + 16 * o]) := by simp only [aModify, bit_ok ho, sl_ok ha, sl_ok ht]
theorem mod_rep {a t : Nat} (ha : a < 4) (ht : t < 4) : aModify G (nI 0) (nI a) (nI t) = aStore G t (G.2.2.1 a ++ [96]) := (mod_ok (o := 0) (by decide) ha ht).trans (if_neg (fun z => absurd z.1 (by decide)))
theorem mod_neg {a t : Nat} (ha : a < 4) (ht : t < 4) (hp : prd (G.2.2.1 a) = true) : aModify G (nI 1) (nI a) (nI t) = aStore G t (G.2.2.1 a ++ [112]) := (mod_ok (o := 1) (by decide) ha ht).trans (if_neg (fun z => absurd z.2 (by rw [hp]; decide)))
theorem mod_not {a t : Nat} (ha : a < 4) (ht : t < 4) (hp : prd (G.2.2.1 a) = false) : aModify G (nI 1) (nI a) (nI t) = (-3, failS G 1) := (mod_ok (o := 1) (by decide) ha ht).trans (if_pos ⟨rfl, hp⟩)
theorem ch335 (W : WS h0 h G) : Tr (f_L_isChanged_335 1 (prL G.2.2.1 4) 1 h) (LOK h0 G.2.2.1) := Tr.neg (by decide) (L_print W (fun h1 W1 => Tr.pos (lg_same _) (Tr.ret ⟨rfl, G, W1, rfl⟩)))
theorem ch162 (W : WS h0 h G) {a p : Nat} (ha : a < 4) (hp : p < 64) : Tr (f_L_isChanged_162 1 (nI a) (nI p) (prL G.2.2.1 4) (evI (G.2.2.1 a) p) (nI ((G.2.2.1 a).length + 1)) 1 h) (LOK h0 G.2.2.1) := by
  have Wa := W.wf ha
  have la := Wa.2.2.1
  refine Tr.neg (by decide) ?_
  by_cases hf : (G.2.2.1 a).length + 1 ≤ 60
  · refine Tr.neg (nI_nlt (a := 60) (b := (G.2.2.1 a).length + 1) hf (by decide)) ?_
    have hlen : (G.2.2.1 a ++ [96]).length = (G.2.2.1 a).length + 1 := by simp only [List.length_append, List.length_singleton]
    have hcm := mod_rep (G := G) (t := 3) ha (by decide)
    have hev : ∀ q, evI (G.2.2.1 a ++ [96]) q = starI (evI (G.2.2.1 a)) q := fun q => ev_rep Wa.pre q
    have hpr := prd_rep Wa.pre
    have hrd : rdsN (evI (G.2.2.1 a ++ [96])) ≤ 1 := by
      rw [rdsN_congr (S := starI (evI (G.2.2.1 a))) (fun q _ => hev q)]
      exact rds_star _
    have hun := undo_sto (G := G) (t := 3) (m := G.2.2.1 a ++ [96]) W.hist
    rw [← hlen]
    rw [← hlen] at hf
    generalize G.2.2.1 a ++ [96] = m at hlen hcm hev hpr hrd hun hf
    refine lce W (X9_modify W.1 (nI 0) (nI a) (nI 3)) (hcm.trans (sto_fit hf)) (fun h1 W1 => Tr.pos rfl (c_isP (s := 3) W1 (by decide) (fun h2 W2 => ?_)))
    have e3 : (stoS G 3 m).2.2.1 3 = m := show va_up G.2.2.1 3 m 3 = m from upd_eq
    rw [e3, hpr]
    refine Tr.pos rfl (c_outputs (s := 3) W2 (by decide) hp (fun h3 W3 => ?_))
    rw [e3, hev]
    have last : ∀ h9, WS h0 h9 (stoS G 3 m) → Tr (f_L_isChanged_316 1 (prL G.2.2.1 4) 1 h9) (LOK h0 G.2.2.1) := by
      intro h9 W9
      obtain ⟨n, G', eu, hn, es⟩ := hun
      refine Tr.neg (by decide) (lce W9 (X9_undo W9.1) eu (fun h10 W10 => Tr.neg (nI_pos (by omega)) ?_))
      have := ch335 W10
      rw [es] at this
      exact this
    refine Tr.neg (by decide) (Tr.pos ((sar_1 hp).mpr (bq_star_self _ hp)) (Tr.pos ?_ (c_rounds (s := 3) W3 (by decide) (fun h4 W4 => ?_))))
    · rw [sub_and.mpr (fun q hq hx => bq_star_sub _ hq hx)]; exact lg_same _
    rw [e3]
    refine Tr.neg (nI_nlt (a := 1) hrd (by decide)) ?_
    refine Tr.loop (I := fun k (x : Int32 × Int32 × Hp) => ∃ q, q ≤ 66 ∧ k = 66 - q ∧ x.1 = 1 ∧ x.2.1 = nI q ∧ WS h0 x.2.2 (stoS G 3 m)) ?_ 5000 66 _ ⟨0, by decide, rfl, rfl, rfl, W4⟩ (by decide)
    intro k x kk hI hk'
    obtain ⟨x1, x2, h5⟩ := x
    obtain ⟨q, hq, ek, ea, eb, W5⟩ := hI
    dsimp only at ea eb W5
    subst ea eb
    dsimp only
    by_cases c : q < 64
    · have n3 : nI q + 3 = nI (q + 3) := nI_add q 3
      refine Tr.neg (nI_ge (b := 64) c (by decide)) (Tr.neg (by decide) (Tr.cs (fun d => ?_) (fun d => ?_)))
      · exact Tr.nmx (hk' (66 - (q + 3)) _ (by omega) ⟨q + 3, by omega, rfl, rfl, n3, W5⟩)
      · have d2 : bq (starI (evI (G.2.2.1 a)) p) q = true := by
          cases hb : bq (starI (evI (G.2.2.1 a)) p) q with
          | true => rfl
          | false => exact absurd ((sar_0 c).mpr hb) d
        refine c_outputs (s := 3) W5 (by decide) c (fun h6 W6 => ?_)
        rw [e3, hev, sub_and.mpr (fun r hr hx => bq_star_tr _ c hr d2 hx)]
        exact Tr.pos (lg_same _) (Tr.nmx (hk' (66 - (q + 3)) _ (by omega) ⟨q + 3, by omega, rfl, rfl, n3, W6⟩))
    · exact Tr.pos (nI_le (a := 64) (b := q) (by omega) (by omega)) (last h5 W5)
  · exact Tr.pos (nI_lt (a := 60) (b := (G.2.2.1 a).length + 1) (by omega) (by omega)) (ch335 W)
theorem L_isChanged (W : WS h0 h G) {a p : Nat} (ha : a < 4) (hp : p < 64) : Tr (f_L_isChanged 1 (nI a) (nI p) h) (LOK h0 G.2.2.1) := by
  have Wa := W.wf ha
  have la := Wa.2.2.1
  refine L_print W (fun h1 W1 => c_outputs W1 ha hp (fun h2 W2 => c_size W2 ha (fun h3 W3 => ?_)))
  rw [nI_1]
  refine Tr.nmx (c_isP W3 ha (fun h4 W4 => ?_))
  have next : ∀ (G' : St) h9, WS h0 h9 G' → G'.2.2.1 = G.2.2.1 → Tr (f_L_isChanged_141 1 (nI a) (nI p) (prL G.2.2.1 4) (evI (G.2.2.1 a) p) (nI ((G.2.2.1 a).length + 1)) 1 h9) (LOK h0 G.2.2.1) := by
    intro G' h9 W9 es
    refine Tr.neg (by decide) (L_print W9 (fun h10 W10 => ?_))
    rw [es]
    refine Tr.pos (lg_same _) ?_
    have := ch162 W10 ha hp
    rw [es] at this
    exact this
  cases hb : prd (G.2.2.1 a) with
  | false =>
    refine Tr.neg (by decide) (lce W4 (X9_modify W4.1 (nI 1) (nI a) (nI 3)) (mod_not ha (by decide) hb) (fun h5 W5 => ?_))
    exact Tr.pos rfl (Tr.pos rfl (next _ h5 W5 rfl))
  | true =>
    refine Tr.pos rfl ?_
    have hlen : (G.2.2.1 a ++ [112]).length = (G.2.2.1 a).length + 1 := by simp only [List.length_append, List.length_singleton]
    have hcm := mod_neg (G := G) (t := 3) ha (by decide) hb
    have hev := ev_neg Wa.pre p
    have hpr := prd_neg Wa.pre hb
    have hun := undo_sto (G := G) (t := 3) (m := G.2.2.1 a ++ [112]) W.hist
    generalize G.2.2.1 a ++ [112] = m at hlen hcm hev hpr hun
    by_cases hf : m.length ≤ 60
    · refine lce W4 (X9_modify W4.1 (nI 1) (nI a) (nI 3)) (hcm.trans (sto_fit hf)) (fun h5 W5 => ?_)
      refine Tr.neg (by decide) (Tr.pos (nI_le (b := 60) (by omega) (by decide)) (Tr.pos (by rw [hlen]) (c_isP (s := 3) W5 (by decide) (fun h6 W6 => ?_))))
      have e3 : (stoS G 3 m).2.2.1 3 = m := show va_up G.2.2.1 3 m 3 = m from upd_eq
      rw [e3, hpr]
      refine Tr.pos rfl (c_outputs (s := 3) W6 (by decide) hp (fun h7 W7 => ?_))
      rw [e3, hev]
      obtain ⟨n, G', eu, hn, es⟩ := hun
      have fin : ∀ y : Int64, Tr (f_L_isChanged_125 1 (nI a) (nI p) (prL G.2.2.1 4) (evI (G.2.2.1 a) p) (nI ((G.2.2.1 a).length + 1)) y y h7) (LOK h0 G.2.2.1) := fun y =>
        Tr.pos (lg_same _) (lce W7 (X9_undo W7.1) eu (fun h8 W8 => Tr.neg (nI_pos (by omega)) (next G' h8 W8 es)))
      by_cases c : evI (G.2.2.1 a) p = 0
      · refine Tr.pos (by rw [c]; exact lg_same _) ?_
        have f1 := fin (ob p)
        rw [if_pos c]
        exact f1
      · refine Tr.neg (lg_no c) ?_
        rw [if_neg c]
        exact fin 0
    · refine lce W4 (X9_modify W4.1 (nI 1) (nI a) (nI 3)) (hcm.trans (sto_big hf)) (fun h5 W5 => ?_)
      refine Tr.neg (by decide) (Tr.neg (nI_ge (a := 60) (b := (G.2.2.1 a).length + 1) (by omega) (by omega)) (Tr.pos rfl (next _ h5 W5 rfl)))
end LCH

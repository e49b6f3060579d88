/-! THE LAW: two policies compared -/
section LCP
variable {h0 h : Hp} {G : St}
theorem cp277 (W : WS h0 h G) {a b : Nat} (ha : a < 4) (hb : b < 4) : Tr (f_L_isCompared_277 1 (nI a) (nI b) 1 h) (LOK h0 G.2.2.1) := by
  refine Tr.neg (by decide) (c_compare W ha ha (fun h1 W1 => ?_))
  rw [ord_self]
  refine Tr.pos rfl (c_witness W1 hb hb (fun h2 W2 => ?_))
  rw [wit_self]
  exact Tr.pos rfl (Tr.ret ⟨rfl, G, W2, rfl⟩)
theorem cp243 (W : WS h0 h G) {a b u : Nat} (ha : a < 4) (hb : b < 4) (hu : u < 64) (he : ∀ p, p < u → evI (G.2.2.1 a) p = evI (G.2.2.1 b) p) : Tr (f_L_isCompared_243 1 (nI a) (nI b) (nI u) h) (LOK h0 G.2.2.1) := by
  by_cases c : u = 0
  · subst c; exact Tr.pos rfl (cp277 W ha hb)
  · refine Tr.neg (fun z => c ((nI_eq (a := u) (b := 0) (by omega) (by decide)).mp z)) ?_
    have e : nI u - 1 = nI (u - 1) := pk_sub (a := u) (b := 1) (by omega)
    rw [e]
    exact c_outputs W ha (by omega) (fun h1 W1 => c_outputs W1 hb (by omega) (fun h2 W2 => Tr.pos (by rw [he (u - 1) (by omega)]; exact lg_same _) (cp277 W2 ha hb)))
theorem cp224 (W : WS h0 h G) {a b u : Nat} {l3 : Int32} {x y : Int64} (ha : a < 4) (hb : b < 4) (hu : u < 64) (he : ∀ p, p < u → evI (G.2.2.1 a) p = evI (G.2.2.1 b) p) (s2 : l3 = 2 → y &&& (x ^^^ (-1)) = 0) : Tr (f_L_isCompared_224 1 (nI a) (nI b) l3 (nI u) x y h) (LOK h0 G.2.2.1) :=
  Tr.cs (fun c => Tr.pos (by rw [s2 c]; exact lg_same _) (cp243 W ha hb hu he)) (fun _ => cp243 W ha hb hu he)
theorem cp205 (W : WS h0 h G) {a b u : Nat} {l3 : Int32} {x y : Int64} (ha : a < 4) (hb : b < 4) (hu : u < 64) (he : ∀ p, p < u → evI (G.2.2.1 a) p = evI (G.2.2.1 b) p) (s1 : l3 = 1 → x &&& (y ^^^ (-1)) = 0) (s2 : l3 = 2 → y &&& (x ^^^ (-1)) = 0) : Tr (f_L_isCompared_205 1 (nI a) (nI b) l3 (nI u) x y h) (LOK h0 G.2.2.1) :=
  Tr.cs (fun c => Tr.pos (by rw [s1 c]; exact lg_same _) (cp224 W ha hb hu he s2)) (fun _ => cp224 W ha hb hu he s2)
theorem cp130 (W : WS h0 h G) {a b u q : Nat} {l3 : Int32} (ha : a < 4) (hb : b < 4) (hu : u < 64) (hq : q < 64) (he : ∀ p, p < u → evI (G.2.2.1 a) p = evI (G.2.2.1 b) p) (hne : evI (G.2.2.1 a) u ≠ evI (G.2.2.1 b) u) (b1 : bq (evI (G.2.2.1 a) u ^^^ evI (G.2.2.1 b) u) q = true) (b2 : ∀ j, j < q → bq (evI (G.2.2.1 a) u ^^^ evI (G.2.2.1 b) u) j = false) (s1 : l3 = 1 → evI (G.2.2.1 a) u &&& (evI (G.2.2.1 b) u ^^^ (-1)) = 0) (s2 : l3 = 2 → evI (G.2.2.1 b) u &&& (evI (G.2.2.1 a) u ^^^ (-1)) = 0) : Tr (f_L_isCompared_130 1 (nI a) (nI b) l3 (nI u) (nI q) 1 h) (LOK h0 G.2.2.1) := by
  refine Tr.neg (by decide) (Tr.neg (nI_pos (by omega)) (c_outputs W ha hu (fun h1 W1 => c_outputs W1 hb hu (fun h2 W2 => Tr.neg (lg_no hne) (Tr.pos ((sar_1 hq).mpr b1) (Tr.cs (fun _ => ?_) (fun _ => ?_)))))))
  · exact cp205 W2 ha hb hu he s1 s2
  · refine Tr.pos ?_ (cp205 W2 ha hb hu he s1 s2)
    have e := low_z hq b2
    rw [show (1 : Int64) <<< ((nI q).toInt64 &&& 63) = ob q from rfl, e]
    exact lg_same _
theorem L_isCompared (W : WS h0 h G) {a b : Nat} (ha : a < 4) (hb : b < 4) : Tr (f_L_isCompared 1 (nI a) (nI b) h) (LOK h0 G.2.2.1) := by
  refine c_compare W ha hb (fun h1 W1 => c_compare W1 hb ha (fun h2 W2 => c_witness W2 ha hb (fun h3 W3 => c_difference W3 ha hb (fun h4 W4 => ?_))))
  have kw := wit_comm (R := evI (G.2.2.1 b)) (S := evI (G.2.2.1 a))
  have kd := dif_comm (R := evI (G.2.2.1 b)) (S := evI (G.2.2.1 a))
  rcases ord_cases (R := evI (G.2.2.1 a)) (S := evI (G.2.2.1 b)) with ⟨e1, e2, eu, ee⟩ | ⟨eu, hc⟩
  · have ew : witN (evI (G.2.2.1 a)) (evI (G.2.2.1 b)) = -1 := by unfold witN; rw [eu]; rfl
    have ed : difF (evI (G.2.2.1 a)) (evI (G.2.2.1 b)) = -1 := by unfold difF; rw [eu]; rfl
    rw [e1, e2, ew, ed]
    rw [ew] at kw
    rw [ed] at kd
    refine Tr.neg (by decide) (Tr.neg (by decide) (Tr.pos rfl (c_witness W4 hb ha (fun h5 W5 => ?_))))
    rw [kw]
    refine Tr.pos rfl (c_difference W5 hb ha (fun h6 W6 => ?_))
    rw [kd]
    exact Tr.pos rfl (Tr.pos rfl (Tr.pos rfl (Tr.pos rfl (Tr.pos rfl (Tr.pos rfl (Tr.pos rfl (Tr.neg (by decide) (Tr.pos (by decide) (cp277 W6 ha hb)))))))))
  · obtain ⟨q, hq, ed, b1, b2⟩ := dif_is eu
    have he : ∀ p, p < unlN (evI (G.2.2.1 a)) (evI (G.2.2.1 b)) → evI (G.2.2.1 a) p = evI (G.2.2.1 b) p := fun p hp => unl_no hp
    have hne := unl_yes eu
    have ew : witN (evI (G.2.2.1 a)) (evI (G.2.2.1 b)) = nI (unlN (evI (G.2.2.1 a)) (evI (G.2.2.1 b))) := if_pos eu
    have g1 : suB (evI (G.2.2.1 a)) (evI (G.2.2.1 b)) 64 = true → evI (G.2.2.1 a) (unlN (evI (G.2.2.1 a)) (evI (G.2.2.1 b))) &&& (evI (G.2.2.1 b) (unlN (evI (G.2.2.1 a)) (evI (G.2.2.1 b))) ^^^ (-1)) = 0 := fun z => suB_iff.mp z _ eu
    have g2 : suB (evI (G.2.2.1 b)) (evI (G.2.2.1 a)) 64 = true → evI (G.2.2.1 b) (unlN (evI (G.2.2.1 a)) (evI (G.2.2.1 b))) &&& (evI (G.2.2.1 a) (unlN (evI (G.2.2.1 a)) (evI (G.2.2.1 b))) ^^^ (-1)) = 0 := fun z => suB_iff.mp z _ eu
    rw [ew, ed]
    rw [ew] at kw
    rw [ed] at kd
    generalize unlN (evI (G.2.2.1 a)) (evI (G.2.2.1 b)) = u at eu b1 b2 he hne kw g1 g2 ⊢
    have go : ∀ (l3 s : Int32), l3 ≠ 0 → (l3 = 1 → evI (G.2.2.1 a) u &&& (evI (G.2.2.1 b) u ^^^ (-1)) = 0) → (l3 = 2 → evI (G.2.2.1 b) u &&& (evI (G.2.2.1 a) u ^^^ (-1)) = 0) → Tr (f_L_isCompared_52 1 (nI a) (nI b) l3 (nI u) (nI q) s s h4) (LOK h0 G.2.2.1) := by
      intro l3 s n0 s1 s2
      refine Tr.pos rfl (c_witness W4 hb ha (fun h5 W5 => ?_))
      rw [kw]
      refine Tr.pos rfl (c_difference W5 hb ha (fun h6 W6 => ?_))
      rw [kd]
      exact Tr.pos rfl (Tr.neg n0 (Tr.neg (no_m1 (k := u) (by omega)) (Tr.pos rfl (Tr.neg (no_m1 (k := u) (by omega)) (Tr.neg (no_m1 (k := q) (by omega)) (Tr.pos rfl (cp130 W6 ha hb eu hq he hne b1 b2 s1 s2)))))))
    rcases hc with ⟨e1, e2, hs⟩ | ⟨e1, e2, hs⟩ | ⟨e1, e2⟩
    · rw [e1, e2]
      exact Tr.pos rfl (go 1 2 (by decide) (fun _ => g1 hs) (fun z => absurd z (by decide)))
    · rw [e1, e2]
      exact Tr.neg (by decide) (Tr.pos rfl (go 2 1 (by decide) (fun z => absurd z (by decide)) (fun _ => g2 hs)))
    · rw [e1, e2]
      exact Tr.neg (by decide) (Tr.neg (by decide) (go 3 3 (by decide) (fun z => absurd z (by decide)) (fun z => absurd z (by decide))))
end LCP

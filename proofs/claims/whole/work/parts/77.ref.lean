/-! THE REFERENCE: the call printed -/
section REF
variable {h : Hp} {G : St}
theorem X10_printed (M : MI h G) (x i : Int32) : Tr (f_X10_printed 123 x i h) (MP h (aPrinted G x i)) := by
  unfold aPrinted
  refine X10_os x (fun e => ?_) (fun s hs e e2 => ?_)
  · rw [e]; exact X10_fl M (by decide) (by decide)
  · rw [e2, e]
    show Tr _ (MP h (if (-1 : Int32) ≤ i then (if i = -1 then nI (prS (G.2.2.1 s)).length else if nI (prS (G.2.2.1 s)).length ≤ i then -1 else nI ((prS (G.2.2.1 s)).getD i.toNatClampNeg 0), G) else (-2, failS G 0)))
    by_cases h1 : (-1 : Int32) ≤ i
    · have E : (if (-1 : Int32) ≤ i then ((if i = -1 then nI (prS (G.2.2.1 s)).length else if nI (prS (G.2.2.1 s)).length ≤ i then -1 else nI ((prS (G.2.2.1 s)).getD i.toNatClampNeg 0), G) : Int32 × St) else (-2, failS G 0)) = (if i = -1 then nI (prS (G.2.2.1 s)).length else if nI (prS (G.2.2.1 s)).length ≤ i then -1 else nI ((prS (G.2.2.1 s)).getD i.toNatClampNeg 0), G) := if_pos h1
      rw [E]
      have hlen : (prS (G.2.2.1 s)).length ≤ 358 := prS_len (M.slot hs).1
      refine Tr.pos h1 (Tr.ck (Lo_123 M.1) (Tr.bd (X10_prints M hs) (fun _ h2 q => ?_)))
      obtain ⟨⟨D1, D2⟩, M2, F2⟩ := q
      have L2 := M2.1
      by_cases h3 : i = -1
      · have E2 : (if i = -1 then nI (prS (G.2.2.1 s)).length else if nI (prS (G.2.2.1 s)).length ≤ i then -1 else nI ((prS (G.2.2.1 s)).getD i.toNatClampNeg 0)) = nI (prS (G.2.2.1 s)).length := if_pos h3
        rw [E2]
        exact Tr.pos h3 (Tr.ck (Lo_123 L2) (Tr.ret ⟨D1, M2, F2⟩))
      · have E2 : (if i = -1 then nI (prS (G.2.2.1 s)).length else if nI (prS (G.2.2.1 s)).length ≤ i then -1 else nI ((prS (G.2.2.1 s)).getD i.toNatClampNeg 0)) = if nI (prS (G.2.2.1 s)).length ≤ i then -1 else nI ((prS (G.2.2.1 s)).getD i.toNatClampNeg 0) := if_neg h3
        rw [E2]
        refine Tr.neg h3 (Tr.ck (Lo_123 L2) ?_)
        rw [D1]
        by_cases h4 : nI (prS (G.2.2.1 s)).length ≤ i
        · have E3 : (if nI (prS (G.2.2.1 s)).length ≤ i then (-1 : Int32) else nI ((prS (G.2.2.1 s)).getD i.toNatClampNeg 0)) = -1 := if_pos h4
          rw [E3]
          exact Tr.pos h4 (Tr.ret ⟨rfl, M2, F2⟩)
        · have E3 : (if nI (prS (G.2.2.1 s)).length ≤ i then (-1 : Int32) else nI ((prS (G.2.2.1 s)).getD i.toNatClampNeg 0)) = nI ((prS (G.2.2.1 s)).getD i.toNatClampNeg 0) := if_neg h4
          rw [E3]
          obtain ⟨k, hk, rfl⟩ : ∃ k, k < (prS (G.2.2.1 s)).length ∧ i = nI k := by
            rcases pk_ix i (n := (prS (G.2.2.1 s)).length) (by omega) with c | c | ⟨k, hk, e5⟩
            · exfalso
              rw [Int32.lt_iff_toInt_lt] at c
              rw [Int32.le_iff_toInt_le] at h1
              have z0 : (0 : Int32).toInt = 0 := rfl
              have z1 : (-1 : Int32).toInt = -1 := rfl
              exact h3 (Int32.toInt_inj.mp (by omega))
            · exact absurd c h4
            · exact ⟨k, hk, e5⟩
          refine Tr.neg h4 (Tr.gp (Lp_123_22 L2) (Tr.ca (La_138 L2 (by omega)) (Tr.ret ⟨?_, M2, F2⟩)))
          rw [nI_clamp (by omega)]
          exact D2 k hk
    · have E : (if (-1 : Int32) ≤ i then ((if i = -1 then nI (prS (G.2.2.1 s)).length else if nI (prS (G.2.2.1 s)).length ≤ i then -1 else nI ((prS (G.2.2.1 s)).getD i.toNatClampNeg 0), G) : Int32 × St) else (-2, failS G 0)) = (-2, failS G 0) := if_neg h1
      rw [E]
      exact Tr.neg h1 (X10_fl M (by decide) (by decide))
end REF
/-! the two sides together -/
theorem MI.fr {h h1 : Hp} {G : St} {A : Nat → Prop} (M : MI h G) (F : Fr A h h1) (hA : ∀ a, 123 ≤ a → ¬ A a) : MI h1 G := by
  obtain ⟨m1, m2, m3, m4, m5, m6, m7, m8, m9⟩ := M
  have I : ∀ a, 123 ≤ a → gI h1 a = gI h a := fun a h1 => F.I (hA a h1)
  refine ⟨F.lay m1, m2, by rw [I 123 (by decide)]; exact m3, m4, ?_, ?_, ?_, by rw [I 123 (by decide)]; exact m8, ?_⟩
  · rw [I 127 (by decide)]; exact m5
  · rw [I 126 (by decide)]; exact m6
  · rw [I 124 (by decide)]; exact m7
  · rw [I 125 (by decide)]; exact m9
theorem CI.fr {h h1 : Hp} {G : St} {A : Nat → Prop} (C : CI h G) (F : Fr A h h1) (hA : ∀ a, a ≤ 122 → a ≠ 3 → ¬ A a) : CI h1 G := by
  obtain ⟨c1, c2, c3, c4, c5, c6, c7⟩ := C
  exact ⟨F.lay c1, by rw [F.I (hA 1 (by decide) (by decide))]; exact c2, c3, by rw [F.I (hA 2 (by decide) (by decide))]; exact c4, by rw [F.I (hA 22 (by decide) (by decide))]; exact c5, fun s hs => (c6 s hs).fr F (fun a x y => hA a (by unfold slR at x; omega) (by unfold slR at x; omega)), c7.fr F (fun a x => hA a (by unfold hiR at x; omega) (by unfold hiR at x; omega))⟩
/-- one call on both: the same answer, and the same state behind it -/
theorem both {α : Type} {h : Hp} {G : St} {a : α × St} {e1 : Option (α × Hp)} {e2 : Hp → Option (α × Hp)} {Q : Int32 → Hp → Prop} {k : α → α → Hp → Option (Int32 × Hp)} (C : CI h G) (M : MI h G) (t1 : Tr e1 (CP h a)) (t2 : ∀ h1, MI h1 G → Tr (e2 h1) (MP h1 a)) (kk : ∀ h2, CI h2 a.2 → MI h2 a.2 → Fr (fun a => 1 ≤ a) h h2 → Tr (k a.1 a.1 h2) Q) : Tr (bd e1 fun v h1 => bd (e2 h1) fun w h2 => k v w h2) Q := by
  refine Tr.bd t1 (fun v h1 q => ?_)
  obtain ⟨rfl, C1, F1⟩ := q
  have M1 : MI h1 G := M.fr F1 (fun a x y => by have : 1 ≤ a ∧ a ≤ 122 := y; omega)
  refine Tr.bd (t2 h1 M1) (fun w h2 q => ?_)
  obtain ⟨rfl, M2, F2⟩ := q
  have C2 : CI h2 a.2 := C1.fr F2 (fun a x _ y => by have : 123 ≤ a := y; omega)
  exact kk h2 C2 M2 ((F1.wk (fun a x => x.1)).tr (F2.wk (fun a x => by have : 123 ≤ a := x; omega)))

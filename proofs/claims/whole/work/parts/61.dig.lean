/-! THE DIGEST OF THE CLASS -/
section DIG2
variable {h : Hp} {G : St}
theorem mixed_eq (x y : Int64) (h : Hp) : f_X9_mixed x y h = some (mx x y, h) := rfl
def AllD (h : Hp) (G : St) (n : Nat) : Prop := ∀ s, s < n → Drv h s (G.2.2.1 s)
theorem X9_slotP {ρ : Type} {Q : ρ → Hp → Prop} {k : Nat → Option (ρ × Hp)} (L : Lay h) {s : Nat} (hs : s < 4) (kk : Tr (k (35 + 22 * s)) Q) : Tr (ck h 1 9 ((gP h 1 2).bind fun v => ca h v 23 (nI s) ((gP h v (nI s).toNatClampNeg).bind k))) Q := by
  refine Tr.ck (Lo_1 L) (Tr.gp (Lp_1_2 L) (Tr.ca (La_3 L hs) ?_))
  rw [nI_clamp (by omega)]
  exact Tr.gp (Lp_3 L hs) kk
theorem X9_dg72 {h0 : Hp} (C : CI h G) (F : Fr cA h0 h) (D : AllD h G 4) (a : Int64) : Tr (loopN (fun k s => f_X9_digest_72 k 1 s.1 s.2.1 s.2.2) 5000 (a, (0 : Int32), h)) (CP h0 (mx (dPairs G.2.2.1 a) (nI G.2.2.2.2.length).toInt64, G)) := by
  have L := C.1
  unfold dPairs
  generalize hE : (fun (i : Nat) (b : Int64) => fo (fun j b => if i < j then mx (mx b (ordN (evI (G.2.2.1 i)) (evI (G.2.2.1 j))).toInt64) (witN (evI (G.2.2.1 i)) (evI (G.2.2.1 j))).toInt64 else b) b 4) = E
  refine Tr.up (N := 4) (J := fun i x => x = (fo E a i, nI i, h)) ?_ ?_ (p := 0) rfl (Nat.zero_le _) (by omega)
  · intro i x kk hi hJ hk'
    subst hJ
    dsimp only
    have e0 : fo E a (i + 1) = fo (fun j b => if i < j then mx (mx b (ordN (evI (G.2.2.1 i)) (evI (G.2.2.1 j))).toInt64) (witN (evI (G.2.2.1 i)) (evI (G.2.2.1 j))).toInt64 else b) (fo E a i) 4 := by rw [← hE]; rfl
    generalize fo E a i = acc at e0
    refine Tr.neg (nI_ge (b := 4) hi (by decide)) (Tr.nmx ?_)
    rw [nI_1]
    refine Tr.up (N := 4) (J := fun j x => x = (fo (fun j b => if i < j then mx (mx b (ordN (evI (G.2.2.1 i)) (evI (G.2.2.1 j))).toInt64) (witN (evI (G.2.2.1 i)) (evI (G.2.2.1 j))).toInt64 else b) acc j, nI j, h) ∧ i < j) ?_ ?_ (p := i + 1) ⟨by rw [fo_skip (f := fun j b => mx (mx b (ordN (evI (G.2.2.1 i)) (evI (G.2.2.1 j))).toInt64) (witN (evI (G.2.2.1 i)) (evI (G.2.2.1 j))).toInt64) (i + 1) (Nat.le_refl _)], by omega⟩ (by omega) (by omega)
    · intro j x kj hj hJ hj'
      obtain ⟨hJ, hij⟩ := hJ
      subst hJ
      dsimp only
      have e1 : fo (fun j b => if i < j then mx (mx b (ordN (evI (G.2.2.1 i)) (evI (G.2.2.1 j))).toInt64) (witN (evI (G.2.2.1 i)) (evI (G.2.2.1 j))).toInt64 else b) acc (j + 1) = mx (mx (fo (fun j b => if i < j then mx (mx b (ordN (evI (G.2.2.1 i)) (evI (G.2.2.1 j))).toInt64) (witN (evI (G.2.2.1 i)) (evI (G.2.2.1 j))).toInt64 else b) acc j) (ordN (evI (G.2.2.1 i)) (evI (G.2.2.1 j))).toInt64) (witN (evI (G.2.2.1 i)) (evI (G.2.2.1 j))).toInt64 := by
        show (if i < j then _ else _) = _
        rw [if_pos hij]
      generalize fo _ acc j = ac2 at e1
      have e2 := X6_orderTo L hi hj
      have e3 := X6_firstUnlike L hi hj
      rw [ordN_congr (D i hi).2.2.1 (D j hj).2.2.1] at e2
      rw [witN_congr (D i hi).2.2.1 (D j hj).2.2.1] at e3
      have o35i := Lso_35 L hi
      have o35j := Lso_35 L hj
      have o44 := Lso_44 L hi
      refine Tr.neg (nI_ge (b := 4) hj (by decide)) ?_
      refine X9_slotP L hi (Tr.ck o35i (Tr.be (X7_relation L hi) (X9_slotP L hj (Tr.ck o35j (Tr.be (X7_relation L hj) (Tr.ck o44 (Tr.be e2 (Tr.be (mixed_eq _ _ _) ?_))))))))
      refine X9_slotP L hi (Tr.ck o35i (Tr.be (X7_relation L hi) (X9_slotP L hj (Tr.ck o35j (Tr.be (X7_relation L hj) (Tr.ck o44 (Tr.be e3 (Tr.be (mixed_eq _ _ _) (Tr.nmx (hj' _ ⟨?_, by omega⟩))))))))))
      rw [e1, nI_1]
    · intro x kj hJ
      obtain ⟨hJ, hij⟩ := hJ
      subst hJ
      dsimp only
      refine Tr.pos (nI_le (b := 4) (Nat.le_refl _) (by decide)) (Tr.nmx (hk' _ ?_))
      rw [e0, nI_1]
  · intro x kk hJ
    subst hJ
    dsimp only
    exact Tr.pos (nI_le (b := 4) (Nat.le_refl _) (by decide)) (Tr.ck (Lo_1 L) (Tr.gp (Lp_1_3 L) (Tr.ck (Lo_4 L) (Tr.be (X2_savedCount L C.2.2.2.2.2.2) (Tr.be (mixed_eq _ _ _) (Tr.ret ⟨rfl, C, F⟩))))))
theorem AllD.up {h1 : Hp} {n : Nat} (D : AllD h G n) (F : Fr (upR n) h h1) (Dn : Drv h1 n (G.2.2.1 n)) : AllD h1 G (n + 1) := by
  intro s hs
  by_cases e : s = n
  · subst e; exact Dn
  · exact (D s (by omega)).fr F (fun a x y z w => by unfold upR at w; omega)
theorem X9_digest (C : CI h G) : Tr (f_X9_digest 1 h) (CP h (digF G, G)) := by
  have L := C.1
  refine Tr.up (N := 5) (J := fun e x => x = (fo (fun e b => mx b (G.2.2.2.1 e).toInt64) 2729 e, nI e, h)) ?_ ?_ (p := 0) rfl (Nat.zero_le _) (by omega)
  · intro e x kk he hJ hk'
    subst hJ
    dsimp only
    refine Tr.neg (nI_ge (b := 5) he (by decide)) (Tr.ck (Lo_1 L) (Tr.gp (Lp_1_4 L) (Tr.ca (La_22 L he) ?_)))
    rw [nI_clamp (by omega), C.2.2.2.2.1 e he]
    exact Tr.be (mixed_eq _ _ _) (Tr.nmx (hk' _ (by rw [nI_1]; rfl)))
  · intro x kk hJ
    subst hJ
    dsimp only
    refine Tr.pos (nI_le (b := 5) (Nat.le_refl _) (by decide)) (Tr.ck (Lo_1 L) ?_)
    rw [C.2.1]
    refine Tr.be (mixed_eq _ _ _) ?_
    unfold digF
    generalize mx (fo (fun e b => mx b (G.2.2.2.1 e).toInt64) 2729 5) (nI G.1).toInt64 = a0
    have hE : ∃ E : Nat → Int64 → Int64, E = fun s b => dSlot (G.2.2.1 s) b := ⟨_, rfl⟩
    obtain ⟨E, hE⟩ := hE
    have e2 : ∀ s b, dSlot (G.2.2.1 s) b = E s b := fun s b => by rw [hE]
    rw [← hE]
    clear hE
    refine Tr.up (N := 4) (J := fun s x => x.1 = fo E a0 s ∧ x.2.1 = nI s ∧ CI x.2.2 G ∧ AllD x.2.2 G s ∧ Fr cA h x.2.2) ?_ ?_ (p := 0) ⟨rfl, rfl, C, fun s hs => absurd hs (Nat.not_lt_zero _), Fr.rf⟩ (Nat.zero_le _) (by omega)
    · intro s x kk hs hJ hk'
      obtain ⟨x1, x2, h1⟩ := x
      obtain ⟨ea, eb, C1, D1, F1⟩ := hJ
      dsimp only at ea eb C1 D1 F1
      subst ea eb
      dsimp only
      refine Tr.neg (nI_ge (b := 4) hs (by decide)) (X9_up C1 hs (fun h2 C2 D2 F2 => ?_))
      have m := X9_mixedSlot C2.1 hs (C2.slot hs) D2 (fo E a0 s)
      rw [e2] at m
      exact Tr.be m (Tr.nmx (hk' _ ⟨rfl, nI_1 s, C2, D1.up F2 D2, F1.tr (F2.wk (upR_cA hs))⟩))
    · intro x kk hJ
      obtain ⟨x1, x2, h1⟩ := x
      obtain ⟨ea, eb, C1, D1, F1⟩ := hJ
      dsimp only at ea eb C1 D1 F1
      subst ea eb
      dsimp only
      exact Tr.pos (nI_le (b := 4) (Nat.le_refl _) (by decide)) (X9_dg72 C1 F1 D1 _)
end DIG2

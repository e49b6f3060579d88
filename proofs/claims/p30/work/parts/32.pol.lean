section X4
variable {h : Hp} {p q : Nat} {l m : List Nat} {b c : Bool}
theorem PA_apart : ∀ p ∈ PAl, ∀ q ∈ PAl, p ≠ q → p + 2 < q ∨ q + 2 < p := by decide
theorem take_snoc {m : List Nat} {i : Nat} (h : i < m.length) : m.take (i + 1) = m.take i ++ [cf m i] := by
  rw [List.take_succ_eq_append_getElem h]
  unfold cf
  rw [List.getD_eq_getElem?_getD, List.getElem?_eq_getElem h]
  rfl
theorem bg_take {i : Nat} (hm : okc (cf m) m.length) (h : i < m.length) : upN (cf (l ++ m.take i)) (l ++ m.take i).length (ar (cf m i)) = l.length + bg (cf m) i := by
  have hlen : (l ++ m.take i).length = l.length + i := by rw [List.length_append, List.length_take]; omega
  have hc : ∀ j, j < l.length + i → cf (l ++ m.take i) j = cf (l ++ m) j := by
    intro j hj
    unfold cf
    rw [List.getD_eq_getElem?_getD, List.getD_eq_getElem?_getD]
    rcases Nat.lt_or_ge j l.length with h1 | h1
    · rw [List.getElem?_append_left h1, List.getElem?_append_left h1]
    · rw [List.getElem?_append_right h1, List.getElem?_append_right h1, List.getElem?_take_of_lt (by omega)]
  rw [← bg_app (l := l) (hm.le (by omega))]
  unfold upN bg
  rw [hlen, rt_congr hc, cf_app_r]
theorem X4_addAll62 (L : Lay h) (hp : PA p) {k7 : (Int32 × Hp) → Option (Unit × Hp)} {l1 : Nat} {l2 : Int32} {i : Nat} {Q : Unit → Hp → Prop} (k : Tr (k7 (nI (i + 1), sI h p 2 (gI h p 2 + 1))) Q) : Tr (f_X4_addAll_62 k7 p l1 l2 (nI i) h) Q := by
  refine Tr.ck (Lpo L hp) (Tr.nmx ?_)
  rw [nI_1]
  exact k
theorem X4_addAll (L : Lay h) (hp : PA p) (hq : PA q) (hpq : p ≠ q) (P : PolI h p l b) (R : PolI h q m c) (hl : l.length < 2 ^ 29) (hm : m.length ≤ 60) (ok : okc (cf m) m.length) : Tr (f_X4_addAll p q h) (fun _ h' => PolI h' p (l ++ m) b ∧ Fr (pR p) h h') := by
  have hap := PA_apart p hp q hq hpq
  have nq : ∀ d, d ≤ 2 → ¬ pR p (q + d) := fun d hd x => by unfold pR at x; omega
  refine Tr.ck (Lpo L hp) (Tr.nmx ?_)
  rw [P.1]
  refine Tr.up (N := m.length) (J := fun i s => s.1 = nI i ∧ PolI s.2 p (l ++ m.take i) b ∧ Fr (pR p) h s.2) ?_ ?_ (p := 0) ⟨rfl, by simpa using P, Fr.rf⟩ (Nat.zero_le _) (by omega)
  · intro i s kk hi hJ hk'
    obtain ⟨i0, h1⟩ := s
    obtain ⟨e, P1, F⟩ := hJ
    simp only at e P1 F
    subst e
    dsimp only
    have L1 := F.lay L
    have R1 := R.fr F (nq 0 (by omega)) (nq 1 (by omega)) (nq 2 (by omega))
    have hlen : (l ++ m.take i).length = l.length + i := by rw [List.length_append, List.length_take]; omega
    have hx := R1.2.2 i hi (by omega)
    refine Tr.ck (Lpo L1 hq) (Tr.neg ?_ (Tr.neg (nI_ge (b := 60) (by omega) (by decide)) (Tr.ck (Lpo L1 hp) ?_)))
    · show ¬ gI h1 q 2 ≤ nI i
      rw [R1.1]; exact nI_ge hi (by omega)
    rw [P1.1]
    rcases Nat.lt_or_ge (l ++ m.take i).length 60 with h60 | h60
    · refine Tr.neg (nI_ge (b := 60) h60 (by decide)) ?_
      refine Tr.gp (Lp0 L1 hp) (Tr.gp (Lp0 L1 hq) (Tr.ca (Lpa1 L1 hq (by omega)) ?_))
      refine Tr.ca (Lpa1 L1 hp h60) ?_
      rw [nI_clamp (by omega), nI_clamp (by omega), hx.1]
      refine Tr.gp (Lp1 L1.sI hp) (Tr.gp (Lp1 L1.sI hq) (Tr.ca (Lpa2 L1.sI hq (by omega)) ?_))
      rw [gI_sI_ne (by omega), P1.1]
      refine Tr.ca (Lpa2 L1.sI hp h60) ?_
      rw [nI_clamp (by omega), gI_sI_ne (by omega), hx.2, nI_add]
      refine Tr.nm (fun h2 e2 => ?_)
      subst e2
      refine X4_addAll62 L1.sI.sI hp (hk' _ ⟨rfl, ?_, F.tr (((Fr.sI pR1).tr (Fr.sI pR2)).tr (Fr.sI pR0))⟩)
      rw [take_snoc hi, ← List.append_assoc]
      refine P1.snoc h60 ?_ ?_ ?_ ?_
      · rw [gI_sI, upd_eq, gI_sI_ne (by omega), gI_sI_ne (by omega), P1.1, nI_1]
      · rw [gI_sI, upd_ne (by decide), gI_sI_ne (by omega), gI_sI_ne (by omega)]
      · rw [gI_sI_ne (by omega), gI_sI_ne (by omega), gI_sI]
      · rw [gI_sI_ne (by omega), gI_sI, gI_sI_ne (by omega), bg_take ok hi]
    · refine Tr.pos (nI_le (a := 60) h60 (by omega)) ?_
      refine X4_addAll62 L1 hp (hk' _ ⟨rfl, ?_, F.tr (Fr.sI pR0)⟩)
      rw [take_snoc hi, ← List.append_assoc]
      refine P1.snocBig h60 ?_ ?_ ?_ ?_
      · show gI (sI h1 p 2 (gI h1 p 2 + 1)) p 2 = _
        rw [gI_sI, upd_eq, P1.1, nI_1]
      · rw [gI_sI, upd_ne (by decide)]
      · rw [gI_sI_ne (by omega)]
      · rw [gI_sI_ne (by omega)]
  · intro s kk hJ
    obtain ⟨i0, h1⟩ := s
    obtain ⟨e, P1, F⟩ := hJ
    simp only at e P1 F
    subst e
    dsimp only
    have L1 := F.lay L
    have R1 := R.fr F (nq 0 (by omega)) (nq 1 (by omega)) (nq 2 (by omega))
    refine Tr.ck (Lpo L1 hq) (Tr.pos ?_ (Tr.ret ⟨by rw [List.take_length] at P1; exact P1, F⟩))
    show gI h1 q 2 ≤ nI m.length
    rw [R1.1]
    exact nI_le (Nat.le_refl _) (by omega)
end X4

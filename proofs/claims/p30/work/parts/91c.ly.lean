/-! the nodes of a drawing, and what they stand for -/
def LY (o : Nat) (R : Nat → Int64) (L : List (Int64 × Int64)) (T : List TE) (i : Nat) (F : Nat → Int64 × Int64) : Prop := (∃ p, p < 64 ∧ i = dB3 R L p ∧ F = fun _ => acts R p) ∨ (∃ g, g < 16 ∧ i = dB2 o R L T g ∧ F = fun x => acts R (4 * g + vlN x 2)) ∨ (∃ g, g < 4 ∧ i = dB1 o R L T g ∧ F = fun x => acts R (4 * (4 * g + vlN x 1) + vlN x 2)) ∨ (∃ g, g < 1 ∧ i = nid o 0 (dB1 o R L T) (dT0 o R L T) g ∧ F = fun x => acts R (4 * (4 * (4 * g + vlN x 0) + vlN x 1) + vlN x 2))
theorem LY.oth {o o2 : Nat} {R : Nat → Int64} {L L2 : List (Int64 × Int64)} {T T2 : List TE} {i : Nat} {F : Nat → Int64 × Int64} (h : LY o R L T i F) : ∃ j, LY o2 R L2 T2 j F := by
  rcases h with ⟨p, a, b, c⟩ | ⟨p, a, b, c⟩ | ⟨p, a, b, c⟩ | ⟨p, a, b, c⟩
  · exact ⟨_, Or.inl ⟨p, a, rfl, c⟩⟩
  · exact ⟨_, Or.inr (Or.inl ⟨p, a, rfl, c⟩)⟩
  · exact ⟨_, Or.inr (Or.inr (Or.inl ⟨p, a, rfl, c⟩))⟩
  · exact ⟨_, Or.inr (Or.inr (Or.inr ⟨p, a, rfl, c⟩))⟩
theorem mem_dIds {o : Nat} {R : Nat → Int64} {L : List (Int64 × Int64)} {T : List TE} {i : Nat} : i ∈ dIds o R L T ↔ ∃ F, LY o R L T i F := by
  unfold dIds
  simp only [List.mem_append, List.mem_map, List.mem_range]
  constructor
  · rintro (((⟨p, a, b⟩ | ⟨p, a, b⟩) | ⟨p, a, b⟩) | ⟨p, a, b⟩)
    · exact ⟨_, Or.inl ⟨p, a, b.symm, rfl⟩⟩
    · exact ⟨_, Or.inr (Or.inl ⟨p, a, b.symm, rfl⟩)⟩
    · exact ⟨_, Or.inr (Or.inr (Or.inl ⟨p, a, b.symm, rfl⟩))⟩
    · exact ⟨_, Or.inr (Or.inr (Or.inr ⟨p, a, b.symm, rfl⟩))⟩
  · rintro ⟨F, ⟨p, a, b, _⟩ | ⟨p, a, b, _⟩ | ⟨p, a, b, _⟩ | ⟨p, a, b, _⟩⟩
    · exact Or.inl (Or.inl (Or.inl ⟨p, a, b.symm⟩))
    · exact Or.inl (Or.inl (Or.inr ⟨p, a, b.symm⟩))
    · exact Or.inl (Or.inr ⟨p, a, b.symm⟩)
    · exact Or.inr ⟨p, a, b.symm⟩
theorem sm_nid {o n N : Nat} {b : Nat → Nat} {T M : List TE} {D : List (Int64 × Int64)} {x k : Nat} (hT : ∀ j, j < 4 * N → HF o (tss (2 - n) b T N ++ M) n (b j)) (hk : k < N) : sm o D (tss (2 - n) b T N ++ M) x (n + 1) (nid o (2 - n) b (tss (2 - n) b T N) k) = sm o D (tss (2 - n) b T N ++ M) x n (b (4 * k + vlN x (2 - n))) := by
  unfold nid
  cases ha : alq b k with
  | true =>
    rw [if_pos rfl, sm_s (hT _ (by omega)), alq_v ha (vlN_lt _ _)]
  | false =>
    rw [if_neg (by decide)]
    have hm := tss_mem (2 - n) b T hk ha
    have hl := ixo_lt hm
    have hg := ixo_get hm
    generalize ixo (tss (2 - n) b T N) (tsk (2 - n) b k) = y at hl hg
    have e : o + y - o = y := by omega
    have eg : (tss (2 - n) b T N ++ M).getD y (0, []) = tsk (2 - n) b k := by rw [gD_app hl, List.getD_eq_getElem?_getD, hg]; rfl
    rw [sm_ts (by omega), e]
    unfold chl
    rw [eg, tsk_v _ _ _ _ (vlN_lt _ _)]
    rfl
section LYS
variable {R : Nat → Int64} {o : Nat} {L : List (Int64 × Int64)} {T : List TE}
theorem Hg3 (ho : (dL R L).length ≤ o) {p : Nat} (hp : p < 64) {TT : List TE} : HF o TT 0 (dB3 R L p) := Nat.lt_of_lt_of_le (ixo_lt (lvs_mem (acts R) L hp)) ho
theorem Hg2 (ho : (dL R L).length ≤ o) {k : Nat} (hk : k < 16) : HF o (dT2 R L T) 1 (dB2 o R L T k) := HF.nid (n := 0) (N := 16) (b := dB3 R L) (T := T) (fun j hj => Hg3 ho (by omega)) hk
theorem Hg1 (ho : (dL R L).length ≤ o) {k : Nat} (hk : k < 4) : HF o (dT1 o R L T) 2 (dB1 o R L T k) := HF.nid (n := 1) (N := 4) (b := dB2 o R L T) (T := dT2 R L T) (fun j hj => Hg2 ho (by omega)) hk
theorem Hg0 (ho : (dL R L).length ≤ o) {k : Nat} (hk : k < 1) : HF o (dT0 o R L T) 3 (nid o 0 (dB1 o R L T) (dT0 o R L T) k) := HF.nid (n := 2) (N := 1) (b := dB1 o R L T) (T := dT1 o R L T) (fun j hj => Hg1 ho (by omega)) hk
theorem tss_ext (f : Nat) (b : Nat → Nat) (T : List TE) (n : Nat) : ∃ M, tss f b T n = T ++ M := by
  obtain ⟨M, e⟩ := tss_pre f b T (Nat.zero_le n)
  exact ⟨M, e⟩
theorem d21 : ∃ M, dT1 o R L T = dT2 R L T ++ M := tss_ext 1 (dB2 o R L T) (dT2 R L T) 4
theorem d10 : ∃ M, dT0 o R L T = dT1 o R L T ++ M := tss_ext 0 (dB1 o R L T) (dT1 o R L T) 1
theorem d02 : ∃ M, dT2 R L T = T ++ M := tss_ext 2 (dB3 R L) T 16
theorem d00 : ∃ M, dT0 o R L T = T ++ M := by
  obtain ⟨A, a⟩ := d02 (R := R) (L := L) (T := T)
  obtain ⟨B, b⟩ := d21 (R := R) (L := L) (T := T) (o := o)
  obtain ⟨C, c⟩ := d10 (R := R) (L := L) (T := T) (o := o)
  exact ⟨A ++ (B ++ C), by rw [c, b, a, List.append_assoc, List.append_assoc]⟩
theorem s3 (ho : (dL R L).length ≤ o) {MD : List (Int64 × Int64)} {TT : List TE} {x n p : Nat} (hp : p < 64) : sm o (dL R L ++ MD) TT x n (dB3 R L p) = acts R p := by
  have hm := lvs_mem (acts R) L hp
  have hl : dB3 R L p < (dL R L).length := ixo_lt hm
  rw [sm_lf (by omega), gD_app hl, List.getD_eq_getElem?_getD]
  have : (dL R L)[dB3 R L p]? = some (acts R p) := ixo_get hm
  rw [this]; rfl
theorem s2 (ho : (dL R L).length ≤ o) {MD : List (Int64 × Int64)} {M : List TE} {x g : Nat} (hg : g < 16) : sm o (dL R L ++ MD) (dT2 R L T ++ M) x 1 (dB2 o R L T g) = acts R (4 * g + vlN x 2) := by
  have hv := vlN_lt x 2
  have e : sm o (dL R L ++ MD) (dT2 R L T ++ M) x 1 (dB2 o R L T g) = sm o (dL R L ++ MD) (dT2 R L T ++ M) x 0 (dB3 R L (4 * g + vlN x 2)) := sm_nid (o := o) (n := 0) (N := 16) (b := dB3 R L) (T := T) (M := M) (D := dL R L ++ MD) (x := x) (k := g) (fun j hj => Hg3 ho (by omega)) hg
  exact e.trans (s3 ho (by omega))
theorem s1 (ho : (dL R L).length ≤ o) {MD : List (Int64 × Int64)} {M : List TE} {x g : Nat} (hg : g < 4) : sm o (dL R L ++ MD) (dT1 o R L T ++ M) x 2 (dB1 o R L T g) = acts R (4 * (4 * g + vlN x 1) + vlN x 2) := by
  have hv := vlN_lt x 1
  obtain ⟨A, hA⟩ := d21 (R := R) (L := L) (T := T) (o := o)
  have e : sm o (dL R L ++ MD) (dT1 o R L T ++ M) x 2 (dB1 o R L T g) = sm o (dL R L ++ MD) (dT1 o R L T ++ M) x 1 (dB2 o R L T (4 * g + vlN x 1)) := sm_nid (o := o) (n := 1) (N := 4) (b := dB2 o R L T) (T := dT2 R L T) (M := M) (D := dL R L ++ MD) (x := x) (k := g) (fun j hj => by
    show HF o (dT1 o R L T ++ M) 1 _
    rw [hA, List.append_assoc]; exact (Hg2 ho (by omega)).app) hg
  refine e.trans ?_
  show sm o (dL R L ++ MD) (dT1 o R L T ++ M) x 1 (dB2 o R L T (4 * g + vlN x 1)) = _
  rw [hA, List.append_assoc]
  exact s2 ho (by omega)
theorem s0 (ho : (dL R L).length ≤ o) {MD : List (Int64 × Int64)} {M : List TE} {x g : Nat} (hg : g < 1) : sm o (dL R L ++ MD) (dT0 o R L T ++ M) x 3 (nid o 0 (dB1 o R L T) (dT0 o R L T) g) = acts R (4 * (4 * (4 * g + vlN x 0) + vlN x 1) + vlN x 2) := by
  have hv := vlN_lt x 0
  obtain ⟨A, hA⟩ := d10 (R := R) (L := L) (T := T) (o := o)
  have e : sm o (dL R L ++ MD) (dT0 o R L T ++ M) x 3 (nid o 0 (dB1 o R L T) (dT0 o R L T) g) = sm o (dL R L ++ MD) (dT0 o R L T ++ M) x 2 (dB1 o R L T (4 * g + vlN x 0)) := sm_nid (o := o) (n := 2) (N := 1) (b := dB1 o R L T) (T := dT1 o R L T) (M := M) (D := dL R L ++ MD) (x := x) (k := g) (fun j hj => by
    show HF o (dT0 o R L T ++ M) 2 _
    rw [hA, List.append_assoc]; exact (Hg1 ho (by omega)).app) hg
  refine e.trans ?_
  show sm o (dL R L ++ MD) (dT0 o R L T ++ M) x 2 (dB1 o R L T (4 * g + vlN x 0)) = _
  rw [hA, List.append_assoc]
  exact s1 ho (by omega)
theorem LY.is {i : Nat} {F : Nat → Int64 × Int64} (h : LY o R L T i F) (ho : (dL R L).length ≤ o) (MD : List (Int64 × Int64)) (M : List TE) : HF o (dT0 o R L T ++ M) 3 i ∧ (i < o → i < (dL R L).length) ∧ ∀ x, sm o (dL R L ++ MD) (dT0 o R L T ++ M) x 3 i = F x := by
  obtain ⟨A, hA⟩ := d21 (R := R) (L := L) (T := T) (o := o)
  obtain ⟨B, hB⟩ := d10 (R := R) (L := L) (T := T) (o := o)
  have b3 : ∀ p, p < 64 → dB3 R L p < (dL R L).length := fun p hp => ixo_lt (lvs_mem (acts R) L hp)
  have b2 : ∀ g, g < 16 → dB2 o R L T g < o → dB2 o R L T g < (dL R L).length := fun g hg => by
    show nid o 2 (dB3 R L) (dT2 R L T) g < o → nid o 2 (dB3 R L) (dT2 R L T) g < _
    unfold nid
    by_cases c : alq (dB3 R L) g = true
    · rw [if_pos c]; exact fun _ => b3 _ (by omega)
    · rw [if_neg c]; intro z; omega
  have b1 : ∀ g, g < 4 → dB1 o R L T g < o → dB1 o R L T g < (dL R L).length := fun g hg => by
    show nid o 1 (dB2 o R L T) (dT1 o R L T) g < o → nid o 1 (dB2 o R L T) (dT1 o R L T) g < _
    unfold nid
    by_cases c : alq (dB2 o R L T) g = true
    · rw [if_pos c]; exact b2 _ (by omega)
    · rw [if_neg c]; intro z; omega
  have b0 : ∀ g, g < 1 → nid o 0 (dB1 o R L T) (dT0 o R L T) g < o → nid o 0 (dB1 o R L T) (dT0 o R L T) g < (dL R L).length := fun g hg => by
    unfold nid
    by_cases c : alq (dB1 o R L T) g = true
    · rw [if_pos c]; exact b1 _ (by omega)
    · rw [if_neg c]; intro z; omega
  rcases h with ⟨p, a, ei, ef⟩ | ⟨g, a, ei, ef⟩ | ⟨g, a, ei, ef⟩ | ⟨g, a, ei, ef⟩ <;> rw [ei, ef]
  · exact ⟨(Hg3 ho a).up (by decide), fun _ => b3 p a, fun x => s3 ho a⟩
  · have hf : HF o (dT0 o R L T ++ M) 1 (dB2 o R L T g) := by rw [hB, hA, List.append_assoc, List.append_assoc]; exact (Hg2 ho a).app
    refine ⟨hf.up (by decide), b2 g a, fun x => ?_⟩
    rw [sm_up hf (by decide), hB, hA, List.append_assoc, List.append_assoc]
    exact s2 ho a
  · have hf : HF o (dT0 o R L T ++ M) 2 (dB1 o R L T g) := by rw [hB, List.append_assoc]; exact (Hg1 ho a).app
    refine ⟨hf.up (by decide), b1 g a, fun x => ?_⟩
    rw [sm_up hf (by decide), hB, List.append_assoc]
    exact s1 ho a
  · exact ⟨(Hg0 ho a).app, b0 g a, fun x => s0 ho a⟩
/-- the table of a drawing is good -/
theorem GTT.d0 (ho : (dL R L).length ≤ o) (h : GTT (dL R L).length o T) : GTT (dL R L).length o (dT0 o R L T) := by
  have ly := fun i F (z : LY o R L T i F) => (z.is ho [] []).2.1
  have g2 : GTT (dL R L).length o (dT2 R L T) := GTT.tss (f := 2) (b := dB3 R L) h (n := 16) (fun j hj => ly _ _ (Or.inl ⟨j, by omega, rfl, rfl⟩))
  have g1 : GTT (dL R L).length o (dT1 o R L T) := GTT.tss (f := 1) (b := dB2 o R L T) g2 (n := 4) (fun j hj => ly _ _ (Or.inr (Or.inl ⟨j, by omega, rfl, rfl⟩)))
  exact GTT.tss (f := 0) (b := dB1 o R L T) g1 (n := 1) (fun j hj => ly _ _ (Or.inr (Or.inr (Or.inl ⟨j, by omega, rfl, rfl⟩))))
end LYS


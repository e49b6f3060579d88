/-! THE REFERENCE'S SHARED NODES -/
section SHR
variable {R S : Nat → Int64}
theorem LY_un {i : Nat} {F : Nat → Int64 × Int64} (h : LY 128 R [] [] i F) : ∃ j, j < cO R + (cT R).length ∧ i = mvI (cO R) j ∧ LY (cO R) R [] [] j F := by
  have key : ∀ j, LY (cO R) R [] [] j F → j < cO R + (cT R).length := fun j z => by
    have := (z.is (Nat.le_refl _) [] []).1.lt
    rw [List.append_nil] at this
    exact this
  rcases h with ⟨p, a, ei, c⟩ | ⟨p, a, ei, c⟩ | ⟨p, a, ei, c⟩ | ⟨p, a, ei, c⟩
  · have z : LY (cO R) R [] [] (dB3 R [] p) F := Or.inl ⟨p, a, rfl, c⟩
    exact ⟨_, key _ z, by rw [ei, mv_dB3 a], z⟩
  · have z : LY (cO R) R [] [] (dB2 (cO R) R [] [] p) F := Or.inr (Or.inl ⟨p, a, rfl, c⟩)
    exact ⟨_, key _ z, by rw [ei, mv_dB2 a], z⟩
  · have z : LY (cO R) R [] [] (dB1 (cO R) R [] [] p) F := Or.inr (Or.inr (Or.inl ⟨p, a, rfl, c⟩))
    exact ⟨_, key _ z, by rw [ei, mv_dB1 a], z⟩
  · have e0 : p = 0 := by omega
    rw [e0] at c ei
    have z : LY (cO R) R [] [] (cR R) F := Or.inr (Or.inr (Or.inr ⟨0, by decide, rfl, c⟩))
    exact ⟨_, key _ z, by rw [ei]; exact mv_dRt, z⟩
theorem dLL (R S : Nat → Int64) : (dL S (dL R [])).length ≤ 128 := by
  have h1 := dL_len R
  have h2 := lvs_len (acts S) (dL R []) 64
  have h3 : (dL S (dL R [])).length ≤ (dL R []).length + 64 := h2
  omega
theorem in_both {i : Nat} (hi : i < cO R + (cT R).length) : mvI (cO R) i ∈ dIds 128 S (dL R []) (dT0 128 R [] []) ↔ ∃ j, twin R S i j := by
  obtain ⟨F, z⟩ := LY_cov hi
  have hR : (dL R []).length ≤ 128 := by have := dL_len R; omega
  obtain ⟨M, hM⟩ := d00 (o := 128) (R := S) (L := dL R []) (T := dT0 128 R [] [])
  obtain ⟨MD, hMD⟩ := lvs_pre (acts S) (dL R []) (Nat.zero_le 64)
  have hMD : dL S (dL R []) = dL R [] ++ MD := hMD
  have ja := (LY_mv z).is hR MD M
  rw [← hM, ← hMD] at ja
  have oa : HF (cO R) (cT R) 3 i ∧ (i < cO R → i < (dL R []).length) ∧ ∀ x, sm (cO R) (dL R []) (cT R) x 3 i = F x := by
    have oz := z.is (Nat.le_refl _) [] []
    rw [List.append_nil, List.append_nil] at oz
    exact oz
  have hJ := dLL R S
  have hge : (dL R []).length ≤ (dL S (dL R [])).length := by rw [hMD, List.length_append]; omega
  have ownj : ∀ {j : Nat} {Fb : Nat → Int64 × Int64}, LY (cO S) S [] [] j Fb → HF (cO S) (cT S) 3 j ∧ ∀ x, sm (cO S) (dL S []) (cT S) x 3 j = Fb x := fun {j Fb} y => by
    have ob := y.is (Nat.le_refl _) [] []
    rw [List.append_nil, List.append_nil] at ob
    exact ⟨ob.1, ob.2.2⟩
  have joi : ∀ {j : Nat} {Fb : Nat → Int64 × Int64}, LY 128 S (dL R []) (dT0 128 R [] []) j Fb → HF 128 (dT0 128 S (dL R []) (dT0 128 R [] [])) 3 j ∧ (j < 128 → j < (dL S (dL R [])).length) ∧ ∀ x, sm 128 (dL S (dL R [])) (dT0 128 S (dL R []) (dT0 128 R [] [])) x 3 j = Fb x := fun {j Fb} y => by
    have ob := y.is hJ [] []
    rw [List.append_nil, List.append_nil] at ob
    exact ob
  rw [mem_dIds]
  constructor
  · rintro ⟨Fb, y⟩
    obtain ⟨j, w⟩ := y.oth (o2 := cO S) (L2 := []) (T2 := [])
    obtain ⟨w1, w2⟩ := ownj w
    obtain ⟨y1, y2, y3⟩ := joi y
    exact ⟨j, w1.lt, fun x _ => by rw [w2, oa.2.2, ← y3, ja.2.2]⟩
  · rintro ⟨j, hj, e⟩
    obtain ⟨Fb, w⟩ := LY_cov hj
    obtain ⟨k, y⟩ := w.oth (o2 := 128) (L2 := dL R []) (T2 := dT0 128 R [] [])
    obtain ⟨w1, w2⟩ := ownj w
    obtain ⟨y1, y2, y3⟩ := joi y
    have g0 : GTT (dL R []).length 128 (dT0 128 R [] []) := GTT.d0 hR ⟨fun i j x h => (by cases h), fun k e h => (by cases h), fun k e h => (by cases h)⟩
    have gJ : GTT (dL S (dL R [])).length 128 (dT0 128 S (dL R []) (dT0 128 R [] [])) := GTT.d0 hJ (g0.mono hge)
    have nJ : ND (dL S (dL R [])) := (ND_own R).lvs (acts S) 64
    have ek : k = mvI (cO R) i := can nJ gJ (Nat.le_refl 3) y1 ja.1 y2 (fun h => by have := ja.2.1 h; omega) (fun x hx => by rw [y3, ja.2.2, ← w2, e x hx, oa.2.2])
    exact ⟨Fb, by rw [← ek]; exact y⟩
noncomputable def bId (R S : Nat → Int64) (k : Nat) : Bool := decide (k ∈ dIds 128 R [] [] ∧ k ∈ dIds 128 S (dL R []) (dT0 128 R [] []))
theorem bId_mv {i : Nat} (hi : i < cO R + (cT R).length) : bId R S (mvI (cO R) i) = hasTw R S i := by
  have h1 : mvI (cO R) i ∈ dIds 128 R [] [] := by
    obtain ⟨F, z⟩ := LY_cov hi
    exact mem_dIds.mpr ⟨F, LY_mv z⟩
  have h2 := in_both (S := S) hi
  rw [Bool.eq_iff_iff, hasTw_iff, ← h2]
  unfold bId
  rw [decide_eq_true_eq]
  exact ⟨fun z => z.2, fun z => ⟨h1, z⟩⟩
theorem bId_no {k : Nat} (h : ∀ i, i < cO R + (cT R).length → k ≠ mvI (cO R) i) : bId R S k = false := by
  unfold bId
  rw [decide_eq_false_iff_not]
  rintro ⟨z, _⟩
  obtain ⟨F, y⟩ := mem_dIds.mp z
  obtain ⟨j, hj, e, _⟩ := LY_un y
  exact h j hj e
theorem bId_ct (ht : (cT R).length ≤ 64) : fb_ct (bId R S) 192 = shN R S := by
  have ho := cO_le R
  have e1 : fb_ct (bId R S) 192 = fb_ct (bId R S) 128 + fb_ct (fun k => bId R S (128 + k)) 64 := fb_ct_split _ 128 64
  have e2 : fb_ct (bId R S) 128 = fb_ct (bId R S) (cO R) + fb_ct (fun k => bId R S (cO R + k)) (128 - cO R) := by
    have := fb_ct_split (bId R S) (cO R) (128 - cO R)
    rwa [show cO R + (128 - cO R) = 128 by omega] at this
  have e3 : fb_ct (fun k => bId R S (128 + k)) 64 = fb_ct (fun k => bId R S (128 + k)) (cT R).length + fb_ct (fun k => bId R S (128 + ((cT R).length + k))) (64 - (cT R).length) := by
    have := fb_ct_split (fun k => bId R S (128 + k)) (cT R).length (64 - (cT R).length)
    rwa [show (cT R).length + (64 - (cT R).length) = 64 by omega] at this
  have e4 : fb_ct (fun k => bId R S (cO R + k)) (128 - cO R) = 0 := fb_ct_zero.mpr (fun k hk => bId_no (fun i hi => by
    unfold mvI
    split <;> omega))
  have e5 : fb_ct (fun k => bId R S (128 + ((cT R).length + k))) (64 - (cT R).length) = 0 := fb_ct_zero.mpr (fun k hk => bId_no (fun i hi => by
    unfold mvI
    split <;> omega))
  have e6 : fb_ct (bId R S) (cO R) = fb_ct (hasTw R S) (cO R) := fb_ct_cong (fun k hk => by
    have := bId_mv (S := S) (R := R) (i := k) (by omega)
    rwa [show mvI (cO R) k = k from if_pos hk] at this)
  have e7 : fb_ct (fun k => bId R S (128 + k)) (cT R).length = fb_ct (fun k => hasTw R S (cO R + k)) (cT R).length := fb_ct_cong (fun k hk => by
    have em : mvI (cO R) (cO R + k) = 128 + k := by unfold mvI; rw [if_neg (by omega)]; omega
    show bId R S (128 + k) = hasTw R S (cO R + k)
    rw [← em]
    exact bId_mv (by omega))
  have e8 : shN R S = fb_ct (hasTw R S) (cO R) + fb_ct (fun k => hasTw R S (cO R + k)) (cT R).length := fb_ct_split _ _ _
  rw [e1, e2, e3, e4, e5, e6, e7, e8]
  omega
end SHR
section REF
variable {h : Hp} {G : St}
theorem X10_sharedNodes (M : MI h G) (x y : Int32) : Tr (f_X10_sharedNodes 123 x y h) (MP h (aShared G x y)) := by
  unfold aShared
  refine X10_tw x y (X10_fl M (by decide) (by decide)) (X10_fl M (by decide) (by decide)) (fun s t hs ht e1 e2 => ?_)
  rw [e1, e2]
  refine Tr.ck (Lo_123 M.1) (Tr.bd (X10_clears M) (fun _ h1 q => ?_))
  obtain ⟨A1, B1, Z1, M1, F1⟩ := q
  refine Tr.ck (Lo_123 M1.1) (Tr.bd (X10_draws M1 hs A1 B1 (fun k e hk => by cases hk) (by decide) (by decide)) (fun r1 h2 q => ?_))
  obtain ⟨q1, A2, B2, K2, U2, M2, F2⟩ := q
  have hda := dL_len (evI (G.2.2.1 s))
  have len3 : ∀ (R : Nat → Int64) (L : List (Int64 × Int64)) (T : List TE), (dT0 128 R L T).length ≤ T.length + 21 := fun R L T => by
    have t2 : (dT2 R L T).length ≤ T.length + 16 := tss_len _ _ _ 16
    have t1 : (dT1 128 R L T).length ≤ (dT2 R L T).length + 4 := tss_len _ _ _ 4
    have t0 : (dT0 128 R L T).length ≤ (dT1 128 R L T).length + 1 := tss_len _ _ _ 1
    omega
  have hla := len3 (evI (G.2.2.1 s)) [] []
  rw [List.length_nil] at hla
  refine Tr.ck (Lo_123 M2.1) (Tr.bd (X10_draws M2 ht A2 B2 K2 (by omega) (by omega)) (fun r2 h3 q => ?_))
  obtain ⟨q2, A3, B3, K3, U3, M3, F3⟩ := q
  generalize evI (G.2.2.1 s) = R at q1 A2 B2 K2 U2 q2 A3 B3 K3 U3 hda hla ⊢
  generalize evI (G.2.2.1 t) = S at q2 A3 B3 K3 U3 ⊢
  have hlb := len3 S (dL R []) (dT0 128 R [] [])
  have hJ := dLL R S
  have r1b : dRt 128 R [] [] < 128 + (dT0 128 R [] []).length := (Hg0 (o := 128) (R := R) (L := []) (T := []) (by omega) (k := 0) (by decide)).lt
  have r2b : dRt 128 S (dL R []) (dT0 128 R [] []) < 128 + (dT0 128 S (dL R []) (dT0 128 R [] [])).length := (Hg0 (o := 128) (R := S) (L := dL R []) (T := dT0 128 R [] []) hJ (k := 0) (by decide)).lt
  subst q1 q2
  have hct : (cT R).length ≤ 64 := by
    have : (dT0 128 R [] []).length = (cT R).length := by rw [mv_dT0, List.length_map]
    omega
  have used : ∀ k, k < 192 → (gI h3 147 k = 3 ↔ bId R S k = true) := fun k hk => by
    have u3 := U3 k
    have u2 := U2 k
    rw [Z1 k hk] at u2
    unfold bId
    rw [decide_eq_true_eq]
    by_cases c1 : k ∈ dIds 128 R [] []
    · rw [if_pos c1] at u2
      by_cases c2 : k ∈ dIds 128 S (dL R []) (dT0 128 R [] [])
      · rw [if_pos c2, u2] at u3
        rw [u3]
        exact ⟨fun _ => ⟨c1, c2⟩, fun _ => by decide⟩
      · rw [if_neg c2, u2] at u3
        rw [u3]
        exact ⟨fun z => absurd z (by decide), fun z => absurd z.2 c2⟩
    · rw [if_neg c1] at u2
      by_cases c2 : k ∈ dIds 128 S (dL R []) (dT0 128 R [] [])
      · rw [if_pos c2, u2] at u3
        rw [u3]
        exact ⟨fun z => absurd z (by decide), fun z => absurd z.1 c1⟩
      · rw [if_neg c2, u2] at u3
        rw [u3]
        exact ⟨fun z => absurd z (by decide), fun z => absurd z.1 c1⟩
  rw [← bId_ct hct]
  refine Tr.up (N := 192) (J := fun k (x : Int32 × Int32) => x = (nI (fb_ct (bId R S) k), nI k)) ?_ ?_ (p := 0) rfl (Nat.zero_le _) (by omega)
  · intro k x kk hk hJ hk'
    subst hJ
    dsimp only
    refine Tr.neg (nI_ge (b := 192) hk (by decide)) ?_
    rw [nI_add]
    refine Tr.neg (nI_pos (by omega)) (Tr.ck (Lo_123 M3.1) (Tr.gp (Lp_123_35 M3.1) (Tr.ca (La_147 M3.1 hk) ?_)))
    rw [nI_clamp (by omega)]
    refine Tr.cs (fun c => Tr.nmx (Tr.nmx (hk' _ ?_))) (fun c => Tr.nmx (Tr.nmx (hk' _ ?_)))
    · rw [nI_1, nI_1, fb_ct_succ, if_pos ((used k hk).mp c)]
    · rw [nI_1, fb_ct_succ, if_neg (fun z => c ((used k hk).mpr z))]
      rw [show nI (fb_ct (bId R S) k) + (0 : Int32) = nI (fb_ct (bId R S) k + 0) from nI_add _ 0]
  · intro x kk hJ
    subst hJ
    dsimp only
    exact Tr.pos (nI_le (b := 192) (Nat.le_refl _) (by decide)) (Tr.ret ⟨rfl, M3, (F1.tr F2).tr F3⟩)
end REF

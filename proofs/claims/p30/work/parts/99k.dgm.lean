/-! DIAGRAMS: how large, how deep, what is shared -/
noncomputable def clB (P : Prop) : Bool := @decide P (Classical.propDecidable _)
theorem clB_iff {P : Prop} : clB P = true ↔ P := @decide_eq_true_iff _ (Classical.propDecidable _)
theorem b_ext {x y : Bool} (h : x = true ↔ y = true) : x = y := by
  cases x <;> cases y <;> first | rfl | exact absurd (h.mp rfl) (by decide) | exact absurd (h.mpr rfl) (by decide)
/-- a relation that goes one to one is counted from both sides -/
theorem bij_ct {m : Nat} {T : Nat → Nat → Prop} (hu : ∀ i j k, T i j → T i k → j = k) (hv : ∀ i j k, T i j → T k j → i = k) (hm : ∀ i j, T i j → j < m) : ∀ n, fb_ct (fun i => clB (∃ j, T i j)) n = fb_ct (fun j => clB (∃ i, i < n ∧ T i j)) m := by
  intro n
  induction n with
  | zero =>
    have e : fb_ct (fun j => clB (∃ i, i < 0 ∧ T i j)) m = 0 := fb_ct_zero.mpr (fun k _ => by
      cases hb : clB (∃ i, i < 0 ∧ T i k) with
      | false => rfl
      | true =>
        obtain ⟨i, hi, _⟩ := clB_iff.mp hb
        omega)
    rw [e]; rfl
  | succ n ih =>
    rw [fb_ct_succ, ih]
    by_cases c : ∃ j, T n j
    · obtain ⟨j0, h0⟩ := c
      rw [if_pos (clB_iff.mpr ⟨j0, h0⟩)]
      have e1 : fb_ct (fun j => clB (∃ i, i < n + 1 ∧ T i j)) m = fb_ct (fun j => if j = j0 then true else clB (∃ i, i < n ∧ T i j)) m := fb_ct_cong (fun j _ => b_ext (by
        rw [clB_iff]
        constructor
        · rintro ⟨i, hi, ht⟩
          by_cases e : i = n
          · subst e
            rw [if_pos (hu _ _ _ ht h0)]
          · by_cases e2 : j = j0
            · rw [if_pos e2]
            · rw [if_neg e2]; exact clB_iff.mpr ⟨i, by omega, ht⟩
        · intro h
          by_cases e2 : j = j0
          · subst e2; exact ⟨n, by omega, h0⟩
          · rw [if_neg e2] at h
            obtain ⟨i, hi, ht⟩ := clB_iff.mp h
            exact ⟨i, by omega, ht⟩))
      have e2 := fb_ct_upd (fun j => clB (∃ i, i < n ∧ T i j)) true (hm _ _ h0)
      have e3 : clB (∃ i, i < n ∧ T i j0) = false := by
        cases hb : clB (∃ i, i < n ∧ T i j0) with
        | false => rfl
        | true =>
          obtain ⟨i, hi, ht⟩ := clB_iff.mp hb
          have := hv _ _ _ ht h0
          omega
      rw [e1]
      rw [e3] at e2
      simpa using e2.symm
    · have e0 : ¬ clB (∃ j, T n j) = true := fun z => c (clB_iff.mp z)
      rw [if_neg e0, Nat.add_zero]
      exact fb_ct_cong (fun j _ => b_ext (by
        rw [clB_iff, clB_iff]
        constructor
        · rintro ⟨i, hi, ht⟩; exact ⟨i, by omega, ht⟩
        · rintro ⟨i, hi, ht⟩
          by_cases e : i = n
          · subst e; exact absurd ⟨j, ht⟩ c
          · exact ⟨i, by omega, ht⟩))
section DGM
variable {R S : Nat → Int64}
theorem cT_len (R : Nat → Int64) : (cT R).length ≤ 21 := by
  have a : (dT2 R [] []).length ≤ 0 + 16 := tss_len 2 (dB3 R []) [] 16
  have b : (dT1 (cO R) R [] []).length ≤ (dT2 R [] []).length + 4 := tss_len 1 (dB2 (cO R) R [] []) (dT2 R [] []) 4
  have c : (cT R).length ≤ (dT1 (cO R) R [] []).length + 1 := tss_len 0 (dB1 (cO R) R [] []) (dT1 (cO R) R [] []) 1
  omega
theorem cO_pos (R : Nat → Int64) : 0 < cO R := Nat.lt_of_le_of_lt (Nat.zero_le _) (dB3_lt R (p := 0) (by decide))
theorem cO_64 (R : Nat → Int64) : cO R ≤ 64 := dL_len R
noncomputable def dep (R : Nat → Int64) : Nat := dpi (cO R) (dps (cO R) (cT R)) (cR R)
theorem wl_n (o : Nat) (T : List TE) (p : Nat) : ∀ n i, wl o T p n i ≤ n := by
  intro n
  induction n with
  | zero => intro i; exact Nat.le_refl _
  | succ n ih =>
    intro i
    unfold wl
    split
    · exact Nat.zero_le _
    · have := ih (chl T (i - o) (vlN p (T.getD (i - o) (0, [])).1)); omega
theorem dep_3 (R : Nat → Int64) : dep R ≤ 3 := by
  unfold dep
  rw [← dp_walk (TOK_c R) (HF_c R)]
  exact mxF_le (fun p _ => wl_n _ _ _ _ _)
theorem dep_0 : dep R = 0 ↔ cR R < cO R := by
  unfold dep
  by_cases c : cR R < cO R
  · rw [dpi_lf c]; exact ⟨fun _ => c, fun _ => rfl⟩
  · have hl := (HF_c R).lt
    rw [dpi_ts (TOK_c R) c (by omega)]
    exact ⟨fun z => by omega, fun z => absurd z c⟩
theorem LY_act {i : Nat} {F : Nat → Int64 × Int64} (h : LY (cO R) R [] [] i F) {c : Int64 × Int64} (hc : ∀ x, x < 64 → acts R x = c) (x : Nat) : F x = c := by
  have v0 := vlN_lt x 0
  have v1 := vlN_lt x 1
  have v2 := vlN_lt x 2
  rcases h with ⟨p, a, _, e⟩ | ⟨g, a, _, e⟩ | ⟨g, a, _, e⟩ | ⟨g, a, _, e⟩
  · rw [e]; exact hc p a
  · rw [e]; exact hc _ (by omega)
  · rw [e]; exact hc _ (by omega)
  · rw [e]; exact hc _ (by omega)
theorem size_1 (h : cR R < cO R) : cO R + (cT R).length = 1 := by
  have hc : ∀ x, x < 64 → acts R x = (dL R []).getD (cR R) (0, 0) := fun x hx => by rw [← sm_root R hx, sm_lf h]
  have hn : ∀ i, i < cO R + (cT R).length → i = cR R := fun i hi => by
    obtain ⟨F, z⟩ := LY_cov hi
    have k := (z.is (Nat.le_refl _) [] []).2.2
    rw [List.append_nil, List.append_nil] at k
    refine can (ND_own R) (GT_own R) (Nat.le_refl 3) (HF_own hi) (HF_c R) (fun q => q) (fun q => q) (fun x hx => ?_)
    rw [sm_root R hx, hc x hx]
    exact (k x).trans (LY_act z hc x)
  have h0 := cO_pos R
  rcases Nat.lt_or_ge 1 (cO R + (cT R).length) with c | c
  · have a := hn 0 (by omega)
    have b := hn 1 c
    omega
  · omega
theorem twin_self {i : Nat} (h : i < cO R + (cT R).length) : twin R R i i := ⟨h, fun _ _ => rfl⟩
theorem sh_self : shN R R = cO R + (cT R).length := fb_ct_all.mpr (fun i hi => hasTw_iff.mpr ⟨i, twin_self hi⟩)
theorem sh_le : shN R S ≤ cO R + (cT R).length := fb_ct_le _ _
theorem twin_sym {i j : Nat} (hi : i < cO R + (cT R).length) (h : twin R S i j) : twin S R j i := ⟨hi, fun x hx => (h.2 x hx).symm⟩
theorem sh_sym : shN R S = shN S R := by
  have key := bij_ct (m := cO S + (cT S).length) (T := fun i j => i < cO R + (cT R).length ∧ twin R S i j) (fun i j k a b => twin_uni a.2 b.2) (fun i j k a b => twin_uni (twin_sym a.1 a.2) (twin_sym b.1 b.2)) (fun i j a => a.2.1) (cO R + (cT R).length)
  have e1 : fb_ct (fun i => clB (∃ j, i < cO R + (cT R).length ∧ twin R S i j)) (cO R + (cT R).length) = shN R S := fb_ct_cong (fun i hi => b_ext (by
    rw [clB_iff, hasTw_iff]
    exact ⟨fun ⟨j, _, z⟩ => ⟨j, z⟩, fun ⟨j, z⟩ => ⟨j, hi, z⟩⟩))
  have e2 : fb_ct (fun j => clB (∃ i, i < cO R + (cT R).length ∧ (i < cO R + (cT R).length ∧ twin R S i j))) (cO S + (cT S).length) = shN S R := fb_ct_cong (fun j hj => b_ext (by
    rw [clB_iff, hasTw_iff]
    constructor
    · rintro ⟨i, hi, _, z⟩; exact ⟨i, twin_sym hi z⟩
    · rintro ⟨i, z⟩; exact ⟨i, z.1, z.1, twin_sym hj z⟩))
  exact e1.symm.trans (key.trans e2)
theorem dgm_congr (h : ∀ p, p < 64 → R p = S p) : dL S [] = dL R [] ∧ cO S = cO R ∧ cT S = cT R ∧ cR S = cR R := by
  have h2 : ∀ p, p < 64 → S p = R p := fun p hp => (h p hp).symm
  have e := dL_congr h2 []
  exact ⟨e, congrArg List.length e, cT_congr h2, cR_congr h2⟩
theorem sh_eq (h : ∀ p, p < 64 → R p = S p) : shN R S = cO R + (cT R).length := by
  obtain ⟨e1, e2, e3, _⟩ := dgm_congr h
  refine fb_ct_all.mpr (fun i hi => hasTw_iff.mpr ⟨i, by rw [e2, e3]; exact hi, fun x _ => by rw [e1, e2, e3]⟩)
end DGM
/-! how often the rows are hit -/
section HTS
variable {RL : List (Int32 × Nat)} {n : Nat}
def smH (RL : List (Int32 × Nat)) (n : Nat) : Nat → Nat
  | 0 => 0
  | k + 1 => smH RL n k + hitsN RL n (nI k)
def hB (RL : List (Int32 × Nat)) (n : Nat) : Nat → Nat → Bool
  | 0, _ => false
  | k + 1, p => hB RL n k p || decide (hitN RL n p = nI k)
theorem hB_lt {p : Nat} : ∀ {k : Nat}, hB RL n k p = true ↔ ∃ j, j < k ∧ hitN RL n p = nI j := by
  intro k
  induction k with
  | zero => exact ⟨fun h => (by cases h), fun ⟨j, hj, _⟩ => absurd hj (Nat.not_lt_zero _)⟩
  | succ k ih =>
    show (hB RL n k p || decide (hitN RL n p = nI k)) = true ↔ _
    rw [Bool.or_eq_true, ih, decide_eq_true_eq]
    constructor
    · rintro (⟨j, hj, e⟩ | e)
      · exact ⟨j, by omega, e⟩
      · exact ⟨k, by omega, e⟩
    · rintro ⟨j, hj, e⟩
      by_cases c : j = k
      · subst c; exact Or.inr e
      · exact Or.inl ⟨j, by omega, e⟩
theorem smH_ct : ∀ {k : Nat}, k < 2 ^ 31 → smH RL n k = fb_ct (hB RL n k) 64 := by
  intro k
  induction k with
  | zero => intro _; exact (fb_ct_zero.mpr (fun _ _ => rfl)).symm
  | succ k ih =>
    intro hk
    have e := fb_ct_or (p := hB RL n k) (q := fun p => decide (hitN RL n p = nI k)) (n := 64) (fun p _ => by
      rintro ⟨z1, z2⟩
      obtain ⟨j, hj, ej⟩ := hB_lt.mp z1
      have z2 := of_decide_eq_true z2
      have := (nI_eq (a := j) (b := k) (by omega) (by omega)).mp (ej.symm.trans z2)
      omega)
    show smH RL n k + hitsN RL n (nI k) = _
    rw [ih (by omega)]
    exact e.symm
theorem smH_64 {k : Nat} (hk : k < 2 ^ 31) : smH RL n k ≤ 64 := by rw [smH_ct hk]; exact fb_ct_le _ 64
end HTS
theorem smH_dom (l : List Nat) : fb_ct (bq (domI (evI l))) 64 ≤ smH (tR l) (tN l) (tN l) := by
  have n1 := tN_le l
  have n2 := tR_len l
  rw [smH_ct (by omega)]
  refine fb_ct_sub (fun p hp hb => ?_)
  unfold domI at hb
  rw [bq_mkI _ hp 64 (Nat.le_refl _), decide_eq_true hp, Bool.true_and] at hb
  have hne := of_decide_eq_true hb
  obtain ⟨r, hr, r1, r2, he⟩ := row_of l hp
  have hh := hit_is hr r1 r2
  by_cases c : r < tN l
  · rw [if_pos c] at hh
    exact hB_lt.mpr ⟨r, c, hh⟩
  · exact absurd (row_none hr c he) hne
theorem rows_0 {l : List Nat} (h : tN l = 0) : domI (evI l) = 0 := bq_nz.mpr (fun p hp => by
  obtain ⟨r, hr, _, _, he⟩ := row_of l hp
  have z := row_none hr (by omega) he
  unfold domI
  rw [bq_mkI _ hp 64 (Nat.le_refl _), decide_eq_true hp, Bool.true_and]
  exact decide_eq_false (fun c => c z))
theorem rows_last {l : List Nat} (h : 0 < tN l) : 0 < tot ((lD l).getD ((tR l).getD (tN l - 1) (0, 0)).2 (0, 0)) := by
  have k := kep_last (P := rowNE (lD l) (tR l)) (n := (tR l).length) h
  exact of_decide_eq_true k
theorem tot_128 (x : Int64 × Int64) : tot x ≤ 128 := by
  have a := fb_ct_le (bq x.1) 64
  have b := fb_ct_le (bq x.2) 64
  unfold tot
  exact Nat.add_le_add a b
theorem tN_eq {l m : List Nat} (h : ∀ p, p < 64 → evI l p = evI m p) : tN m = tN l := by
  obtain ⟨e1, _, e3, e4⟩ := dgm_congr h
  unfold tN lD
  rw [e1, e3, e4]

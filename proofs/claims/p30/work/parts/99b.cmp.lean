/-! repetitions -/
theorem bq_star_self (f : Nat → Int64) {p : Nat} (hp : p < 64) : bq (starI f p) p = true := (bq_starI f p hp).mpr Rch.rf
theorem bq_star_sub (f : Nat → Int64) {p q : Nat} (hq : q < 64) (h : bq (f p) q = true) : bq (starI f p) q = true := (bq_starI f p hq).mpr (Rch.st hq h Rch.rf)
theorem bq_star_tr (f : Nat → Int64) {p q r : Nat} (hq : q < 64) (hr : r < 64) (h : bq (starI f p) q = true) (h2 : bq (starI f q) r = true) : bq (starI f p) r = true := (bq_starI f p hr).mpr (((bq_starI f p hq).mp h).tr ((bq_starI f q hr).mp h2))
/-- no bit outside -/
theorem sub_and {x y : Int64} : x &&& (y ^^^ (-1)) = 0 ↔ ∀ q, q < 64 → bq x q = true → bq y q = true := by
  rw [bq_nz]
  constructor
  · intro h q hq hx
    have := h q hq
    rw [bq_and, bq_not _ hq, hx] at this
    cases hy : bq y q with
    | true => rfl
    | false => rw [hy] at this; cases this
  · intro h q hq
    rw [bq_and, bq_not _ hq]
    cases hx : bq x q with
    | false => rfl
    | true => rw [h q hq hx]; rfl
theorem rds_star (f : Nat → Int64) : rdsN (starI f) ≤ 1 := by
  refine mxF_le (fun p hp => ?_)
  unfold farN
  have key : alI (starI f) p (1 + 1) = alI (starI f) p 1 := by
    refine bq_eq (fun i hi => ?_)
    have e0 : ∀ {j}, j < 64 → (bq (alI (starI f) p 1) j = true ↔ bq (starI f p) j = true) := by
      intro j hj
      show bq (ob p ||| seqI (ob p) (starI f)) j = true ↔ _
      rw [seqI_ob _ hp, bq_or, bq_ob p hp j hj, Bool.or_eq_true]
      constructor
      · rintro (h | h)
        · rw [of_decide_eq_true h]; exact bq_star_self f hp
        · exact h
      · exact Or.inr
    constructor
    · intro h
      have h : bq (alI (starI f) p 1 ||| seqI (alI (starI f) p 1) (starI f)) i = true := h
      rw [bq_or, Bool.or_eq_true] at h
      rcases h with h | h
      · exact h
      · obtain ⟨q, hq, h1, h2⟩ := (bq_seqI _ _ i).mp h
        exact (e0 hi).mpr (bq_star_tr f hq hi ((e0 hq).mp h1) h2)
    · exact alI_sub _ _ _
  rcases Nat.lt_or_ge 1 (lea (fun j => decide (alI (starI f) p (j + 1) = alI (starI f) p j)) 64) with c | c
  · have := lea_no _ 64 1 c
    exact absurd key (of_decide_eq_false this)
  · exact c
/-- what only lets through needs no round -/
theorem rds_prd {f : Nat → Int64} (h : ∀ p, p < 64 → f p = 0 ∨ f p = ob p) : rdsN f = 0 := by
  have : rdsN f ≤ 0 := by
    refine mxF_le (fun p hp => ?_)
    unfold farN
    rcases Nat.lt_or_ge 0 (lea (fun j => decide (alI f p (j + 1) = alI f p j)) 64) with c | c
    · have := lea_no _ 64 0 c
      refine absurd ?_ (of_decide_eq_false this)
      show ob p ||| seqI (ob p) f = ob p
      rw [seqI_ob _ hp]
      rcases h p hp with e | e
      · rw [e, or_0]
      · rw [e, or_self64]
    · exact c
  omega
theorem ct_ob {p : Nat} (hp : p < 64) : fb_ct (bq (ob p)) 64 = 1 := by
  have h := fb_ct_cong (n := 64) (p := bq (ob p)) (q := fun k => if k = p then true else (fun _ => false) k) (fun k hk => by
    rw [bq_ob p hp k hk]
    by_cases e : k = p
    · rw [if_pos e]; exact decide_eq_true e
    · rw [if_neg e]; exact decide_eq_false e)
  have h2 := fb_ct_upd (fun _ => false) true (i := p) (n := 64) hp
  have h3 : fb_ct (fun _ => false) 64 = 0 := fb_ct_zero.mpr (fun _ _ => rfl)
  rw [h]
  rw [h3] at h2
  simpa using h2
theorem ct_0 : fb_ct (bq 0) 64 = 0 := fb_ct_zero.mpr (fun k _ => bq_0 k)
theorem wid_prd {f : Nat → Int64} (h : ∀ p, p < 64 → f p = 0 ∨ f p = ob p) : widN f ≤ 1 := by
  refine mxF_le (fun p hp => ?_)
  rcases h p hp with e | e
  · rw [e, ct_0]; exact Nat.zero_le _
  · rw [e, ct_ob hp]; exact Nat.le_refl _
theorem wid_0 {f : Nat → Int64} : widN f = 0 ↔ domI f = 0 := by
  constructor
  · intro h
    refine bq_nz.mpr (fun p hp => ?_)
    unfold domI
    rw [bq_mkI _ hp 64 (Nat.le_refl _), decide_eq_true hp, Bool.true_and]
    refine decide_eq_false (fun c => c ?_)
    refine bq_nz.mpr (fun q hq => ?_)
    have h2 : fb_ct (bq (f p)) 64 ≤ widN f := mxF_ge (g := fun p => fb_ct (bq (f p)) 64) hp
    exact fb_ct_zero.mp (by omega) q hq
  · intro h
    have : widN f ≤ 0 := by
      refine mxF_le (fun p hp => ?_)
      have hb := bq_nz.mp h p hp
      unfold domI at hb
      rw [bq_mkI _ hp 64 (Nat.le_refl _), decide_eq_true hp, Bool.true_and] at hb
      have hz : f p = 0 := Classical.not_not.mp (of_decide_eq_false hb)
      rw [hz, ct_0]
      exact Nat.le_refl _
    omega
theorem wid_64 (f : Nat → Int64) : widN f ≤ 64 := mxF_le (fun _ _ => fb_ct_le _ 64)
/-! two policies -/
section CMP
variable {R S : Nat → Int64}
theorem suB_iff : ∀ {n : Nat}, suB R S n = true ↔ ∀ p, p < n → R p &&& (S p ^^^ (-1)) = 0 := by
  intro n
  induction n with
  | zero => exact ⟨fun _ p h => absurd h (Nat.not_lt_zero _), fun _ => rfl⟩
  | succ n ih =>
    show (suB R S n && decide (R n &&& (S n ^^^ (-1)) = 0)) = true ↔ _
    rw [Bool.and_eq_true, ih]
    constructor
    · rintro ⟨h1, h2⟩ p hp
      by_cases e : p = n
      · subst e; exact of_decide_eq_true h2
      · exact h1 p (by omega)
    · intro h
      exact ⟨fun p hp => h p (by omega), decide_eq_true (h n (by omega))⟩
theorem suB_both (h : suB R S 64 = true) (k : suB S R 64 = true) {p : Nat} (hp : p < 64) : R p = S p := bq_eq (fun q hq => ⟨sub_and.mp (suB_iff.mp h p hp) q hq, sub_and.mp (suB_iff.mp k p hp) q hq⟩)
theorem suB_of (h : ∀ p, p < 64 → R p = S p) : suB R S 64 = true := suB_iff.mpr (fun p hp => sub_and.mpr (fun q _ hx => by rw [← h p hp]; exact hx))
theorem unl_comm : unlN R S = unlN S R := lea_congr (fun j _ => by
  by_cases e : R j = S j
  · rw [decide_eq_false (show ¬ R j ≠ S j from fun c => c e), decide_eq_false (show ¬ S j ≠ R j from fun c => c e.symm)]
  · rw [decide_eq_true (show R j ≠ S j from e), decide_eq_true (show S j ≠ R j from fun c => e c.symm)])
theorem unl_no {p : Nat} (h : p < unlN R S) : R p = S p := Classical.not_not.mp (of_decide_eq_false (lea_no _ 64 p h))
theorem unl_yes (h : unlN R S < 64) : R (unlN R S) ≠ S (unlN R S) := of_decide_eq_true (lea_yes (fun j => decide (R j ≠ S j)) 64 h)
theorem wit_comm : witN R S = witN S R := by unfold witN; rw [unl_comm]
theorem xor_comm64 (x y : Int64) : x ^^^ y = y ^^^ x := bq_ext (fun q _ => by rw [bq_xor, bq_xor, Bool.xor_comm])
theorem dif_comm : difF R S = difF S R := by unfold difF; rw [unl_comm (R := R) (S := S), xor_comm64]
theorem ord_cases : (ordN R S = 0 ∧ ordN S R = 0 ∧ unlN R S = 64 ∧ ∀ p, p < 64 → R p = S p) ∨ (unlN R S < 64 ∧ ((ordN R S = 1 ∧ ordN S R = 2 ∧ suB R S 64 = true) ∨ (ordN R S = 2 ∧ ordN S R = 1 ∧ suB S R 64 = true) ∨ (ordN R S = 3 ∧ ordN S R = 3))) := by
  by_cases e : ∀ p, p < 64 → R p = S p
  · refine Or.inl ⟨?_, ?_, lea_all (fun j hj => decide_eq_false (fun c => c (e j hj))), e⟩
    · unfold ordN; rw [if_pos (suB_of e), if_pos (suB_of (fun p hp => (e p hp).symm))]
    · unfold ordN; rw [if_pos (suB_of (fun p hp => (e p hp).symm)), if_pos (suB_of e)]
  · refine Or.inr ⟨?_, ?_⟩
    · rcases Nat.lt_or_ge (unlN R S) 64 with c | c
      · exact c
      · exact absurd (fun p hp => unl_no (R := R) (S := S) (Nat.lt_of_lt_of_le hp c)) e
    · unfold ordN
      cases h : suB R S 64 with
      | true =>
        cases k : suB S R 64 with
        | true => exact absurd (fun p hp => suB_both h k hp) e
        | false => exact Or.inl ⟨by rw [if_pos rfl, if_neg (by decide)], by rw [if_neg (by decide), if_pos rfl], rfl⟩
      | false =>
        cases k : suB S R 64 with
        | true => exact Or.inr (Or.inl ⟨by rw [if_neg (by decide), if_pos rfl], by rw [if_pos rfl, if_neg (by decide)], rfl⟩)
        | false => exact Or.inr (Or.inr ⟨by rw [if_neg (by decide), if_neg (by decide)], by rw [if_neg (by decide), if_neg (by decide)]⟩)
/-- the lowest bit that differs -/
theorem dif_is (h : unlN R S < 64) : ∃ q, q < 64 ∧ difF R S = nI q ∧ bq (R (unlN R S) ^^^ S (unlN R S)) q = true ∧ ∀ j, j < q → bq (R (unlN R S) ^^^ S (unlN R S)) j = false := by
  have hne := unl_yes h
  have hx : R (unlN R S) ^^^ S (unlN R S) ≠ 0 := fun z => hne (bq_ext (fun q hq => by
    have := bq_nz.mp z q hq
    rw [bq_xor] at this
    cases a : bq (R (unlN R S)) q <;> cases b : bq (S (unlN R S)) q <;> first | rfl | (rw [a, b] at this; cases this)))
  obtain ⟨q, hq, h1, h2⟩ := set_first hx
  exact ⟨q, hq, by unfold difF; rw [if_pos h]; exact lowF_eq hq h1 h2, h1, h2⟩
theorem ord_self : ordN R R = 0 := by unfold ordN; rw [if_pos (suB_of (fun _ _ => rfl)), if_pos (suB_of (fun _ _ => rfl))]
theorem wit_self : witN R R = -1 := by
  have e : unlN R R = 64 := lea_all (fun j _ => decide_eq_false (fun c => c rfl))
  unfold witN; rw [e]; rfl
end CMP
/-- bits below q -/
theorem low_mask : ∀ q, q < 64 → ∀ j, j < 64 → bq (ob q - 1) j = decide (j < q) := by decide +kernel
theorem low_z {x : Int64} {q : Nat} (hq : q < 64) (h : ∀ j, j < q → bq x j = false) : x &&& (ob q - 1) = 0 := bq_nz.mpr (fun j hj => by
  rw [bq_and, low_mask q hq j hj]
  by_cases c : j < q
  · rw [h j c]; rfl
  · rw [decide_eq_false c, Bool.and_false])

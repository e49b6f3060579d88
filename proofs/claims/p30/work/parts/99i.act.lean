/-! actions of a packet -/
theorem kep_out {P : Nat → Bool} : ∀ {n j : Nat}, kep P n ≤ j → j < n → P j = false := by
  intro n
  induction n with
  | zero => intro j _ h; omega
  | succ n ih =>
    intro j h1 h2
    unfold kep at h1
    cases hP : P n with
    | true => rw [hP, if_pos rfl] at h1; omega
    | false =>
      rw [hP, if_neg (by decide)] at h1
      by_cases e : j = n
      · subst e; exact hP
      · exact ih h1 (by omega)
theorem kep_last {P : Nat → Bool} : ∀ {n : Nat}, 0 < kep P n → P (kep P n - 1) = true := by
  intro n
  induction n with
  | zero => intro h; exact absurd h (Nat.lt_irrefl 0)
  | succ n ih =>
    intro h
    unfold kep at h ⊢
    cases hP : P n with
    | true => rw [if_pos rfl]; exact hP
    | false =>
      rw [hP, if_neg (by decide)] at h
      rw [if_neg (by decide)]
      exact ih h
section ACT
variable {R : Nat → Int64} {p : Nat}
theorem hA_acts {a : Nat} (ha : a < 125) : hA (acts R p) a = true ↔ ∃ q, q < 64 ∧ bq (R p) q = true ∧ aN p q = a := by
  unfold hA
  by_cases c : a < 64
  · rw [if_pos c]
    exact bq_actL c
  · rw [if_neg c]
    refine (bq_actH (show a - 64 < 64 by omega)).trans ?_
    rw [show a - 64 + 64 = a by omega]
theorem tot_ct : fb_ct (hA (acts R p)) 125 = tot (acts R p) := by
  have e1 := fb_ct_split (hA (acts R p)) 64 61
  have e2 : fb_ct (hA (acts R p)) 64 = fb_ct (bq (acts R p).1) 64 := fb_ct_cong (fun k hk => if_pos hk)
  have e3 : fb_ct (fun k => hA (acts R p) (64 + k)) 61 = fb_ct (bq (acts R p).2) 61 := fb_ct_cong (fun k hk => by
    unfold hA
    rw [if_neg (by omega), Nat.add_sub_cancel_left])
  have e4 := fb_ct_split (bq (acts R p).2) 61 3
  have e5 : fb_ct (fun k => bq (acts R p).2 (61 + k)) 3 = 0 := fb_ct_zero.mpr (fun k hk => by
    cases hb : bq (acts R p).2 (61 + k) with
    | false => rfl
    | true =>
      obtain ⟨q, hq, _, e⟩ := (bq_actH (show 61 + k < 64 by omega)).mp hb
      have := aN_lt p q
      omega)
  unfold tot
  rw [e2, e3] at e1
  rw [e5] at e4
  exact e1.trans (congrArg (fun z => fb_ct (bq (acts R p).1) 64 + z) e4.symm)
theorem ct_lt {P : Nat → Bool} {a n : Nat} (h : P a = true) (ha : a < n) : fb_ct P a < fb_ct P n := by
  have h1 : fb_ct P (a + 1) = fb_ct P a + 1 := by rw [fb_ct_succ, if_pos h]
  have h2 := fb_ct_mono P (show a + 1 ≤ n from ha)
  omega
theorem act_has {q : Nat} (hq : q < 64) (h : bq (R p) q = true) : hA (acts R p) (aN p q) = true := (hA_acts (aN_lt p q)).mpr ⟨q, hq, h, rfl⟩
theorem tot_0 : tot (acts R p) = 0 ↔ R p = 0 := by
  rw [← tot_ct, fb_ct_zero]
  constructor
  · intro h
    refine bq_nz.mpr (fun q hq => ?_)
    cases hb : bq (R p) q with
    | false => rfl
    | true => exact absurd (h _ (aN_lt p q)) (by rw [act_has hq hb]; decide)
  · intro h a ha
    cases hb : hA (acts R p) a with
    | false => rfl
    | true =>
      obtain ⟨q, _, h2, _⟩ := (hA_acts ha).mp hb
      rw [h, bq_0] at h2
      cases h2
theorem tot_le : tot (acts R p) ≤ 125 := by rw [← tot_ct]; exact fb_ct_le _ _
def aaP (P : Nat → Bool) (idx : Int32) : Int32 := if lea (fun n => P n && decide (nI (fb_ct P n) = idx)) 125 < 125 then nI (lea (fun n => P n && decide (nI (fb_ct P n) = idx)) 125) else -1
theorem aaN_P (x : Int64 × Int64) (idx : Int32) : aaN x idx = aaP (hA x) idx := by unfold aaN aaP; rfl
theorem aaP_at {P : Nat → Bool} {a k : Nat} (ha : a < 125) (h : P a = true) (e : fb_ct P a = k) : aaP P (nI k) = nI a := by
  have hk : ∀ j, fb_ct P j < 2 ^ 31 ∨ 125 ≤ j := fun j => by
    rcases Nat.lt_or_ge j 125 with c | c
    · have := fb_ct_le P j; exact Or.inl (by omega)
    · exact Or.inr c
  have el : lea (fun n => P n && decide (nI (fb_ct P n) = nI k)) 125 = a := by
    refine lea_eq ha ?_ (fun j hj => ?_)
    · show (P a && decide (nI (fb_ct P a) = nI k)) = true
      rw [h, e, decide_eq_true rfl]; rfl
    · show (P j && decide (nI (fb_ct P j) = nI k)) = false
      cases hb : P j with
      | false => rfl
      | true =>
        rw [Bool.true_and]
        refine decide_eq_false (fun z => ?_)
        have h1 := hk j
        have h2 := hk a
        have z2 := (nI_eq (a := fb_ct P j) (b := k) (by omega) (by omega)).mp z
        have := fb_ct_kth_one hb h (z2.trans e.symm)
        omega
  unfold aaP
  rw [el, if_pos ha]
theorem aaP_out {P : Nat → Bool} {k : Nat} (h : fb_ct P 125 ≤ k) (hk : k < 2 ^ 31) : aaP P (nI k) = -1 := by
  have el : lea (fun n => P n && decide (nI (fb_ct P n) = nI k)) 125 = 125 := by
    refine lea_all (fun j hj => ?_)
    cases hb : P j with
    | false => rfl
    | true =>
      rw [Bool.true_and]
      refine decide_eq_false (fun z => ?_)
      have h1 := ct_lt hb hj
      have z2 := (nI_eq (a := fb_ct P j) (b := k) (by omega) (by omega)).mp z
      omega
  unfold aaP
  rw [el]
  rfl
theorem act_k {k : Nat} (hk : k < tot (acts R p)) : ∃ a, a < 125 ∧ hA (acts R p) a = true ∧ fb_ct (hA (acts R p)) a = k ∧ aaN (acts R p) (nI k) = nI a := by
  rw [← tot_ct] at hk
  obtain ⟨a, h1, h2, h3⟩ := fb_ct_kth hk
  exact ⟨a, h1, h2, h3, (aaN_P _ _).trans (aaP_at h1 h2 h3)⟩
theorem act_end : aaN (acts R p) (nI (tot (acts R p))) = -1 := by
  have h1 := tot_le (R := R) (p := p)
  exact (aaN_P _ _).trans (aaP_out (Nat.le_of_eq tot_ct) (by omega))
/-- the packet that an action makes -/
def gq (p a : Nat) : Nat := 16 * (if a / 25 = 4 then p / 16 else a / 25) + 4 * (if a / 5 % 5 = 4 then p / 4 % 4 else a / 5 % 5) + (if a % 5 = 4 then p % 4 else a % 5)
theorem gq_aN : ∀ p, p < 64 → ∀ q, q < 64 → gq p (aN p q) = q := by decide +kernel
/-- the packets of the first k actions -/
def MK (R : Nat → Int64) (p k : Nat) (x : Int64) : Prop := ∀ q, q < 64 → (bq x q = true ↔ bq (R p) q = true ∧ fb_ct (hA (acts R p)) (aN p q) < k)
theorem MK_0 : MK R p 0 0 := fun q _ => ⟨fun h => absurd h (by rw [bq_0]; decide), fun h => absurd h.2 (Nat.not_lt_zero _)⟩
theorem MK_s {k a : Nat} {x : Int64} (hp : p < 64) (h : MK R p k x) (ha : a < 125) (h2 : hA (acts R p) a = true) (h3 : fb_ct (hA (acts R p)) a = k) : gq p a < 64 ∧ MK R p (k + 1) (x ||| ob (gq p a)) := by
  obtain ⟨q0, a1, a2, a3⟩ := (hA_acts ha).mp h2
  have eg : gq p a = q0 := by rw [← a3]; exact gq_aN p hp q0 a1
  rw [eg]
  refine ⟨a1, fun q hq => ?_⟩
  rw [or_ob a1 hq, h q hq]
  constructor
  · rintro (⟨z1, z2⟩ | z)
    · exact ⟨z1, by omega⟩
    · subst z
      exact ⟨a2, by rw [a3, h3]; omega⟩
  · rintro ⟨z1, z2⟩
    by_cases c : fb_ct (hA (acts R p)) (aN p q) = k
    · right
      have e := fb_ct_kth_one (act_has hq z1) h2 (c.trans h3.symm)
      rw [← eg, ← e]
      exact (gq_aN p hp q hq).symm
    · exact Or.inl ⟨z1, by omega⟩
theorem MK_end {x : Int64} (h : MK R p (tot (acts R p)) x) : x = R p := bq_eq (fun q hq => by
  rw [h q hq]
  refine ⟨fun z => z.1, fun z => ⟨z, ?_⟩⟩
  rw [← tot_ct]
  exact ct_lt (act_has hq z) (aN_lt p q))
end ACT
/-! the row that is hit -/
section HIT
variable {l : List Nat} {p : Nat}
theorem hit_is {r : Nat} (hr : r < (tR l).length) (h1 : mtF ((tR l).getD r (0, 0)).1 p 3 = true) (h2 : ∀ j, j < r → mtF ((tR l).getD j (0, 0)).1 p 3 = false) : hitN (tR l) (tN l) p = if r < tN l then nI r else -1 := by
  unfold hitN
  by_cases c : r < tN l
  · have e : lea (fun r => mtF ((tR l).getD r (0, 0)).1 p 3) (tN l) = r := lea_eq c h1 h2
    rw [e, if_pos c]
  · have e : lea (fun r => mtF ((tR l).getD r (0, 0)).1 p 3) (tN l) = tN l := lea_all (fun j hj => h2 j (by omega))
    rw [e, if_neg (Nat.lt_irrefl _), if_neg c]
theorem row_none {r : Nat} (hr : r < (tR l).length) (c : ¬ r < tN l) (he : (lD l).getD ((tR l).getD r (0, 0)).2 (0, 0) = acts (evI l) p) : evI l p = 0 := by
  have h := kep_out (P := rowNE (lD l) (tR l)) (n := (tR l).length) (j := r) (Nat.le_of_not_lt c) hr
  unfold rowNE at h
  rw [he] at h
  have h := of_decide_eq_false h
  exact tot_0.mp (by omega)
theorem row_some {r : Nat} (he : (lD l).getD ((tR l).getD r (0, 0)).2 (0, 0) = acts (evI l) p) : actN l r (-1) = nI (tot (acts (evI l) p)) := by
  unfold actN
  rw [if_pos rfl, he]
theorem row_act {r k : Nat} (hk : k < 2 ^ 31) (he : (lD l).getD ((tR l).getD r (0, 0)).2 (0, 0) = acts (evI l) p) : actN l r (nI k) = aaN (acts (evI l) p) (nI k) := by
  unfold actN
  rw [if_neg (no_m1 hk), he]
theorem mt_get {d : Int32} (h : mtF d p 3 = true) {f : Nat} (hf : f < 3) : eF d f = 4 ∨ eF d f = nI (vlN p f) := by
  have h : (((true && (decide (eF d 0 = 4) || decide (eF d 0 = nI (vlN p 0)))) && (decide (eF d 1 = 4) || decide (eF d 1 = nI (vlN p 1)))) && (decide (eF d 2 = 4) || decide (eF d 2 = nI (vlN p 2)))) = true := h
  rw [Bool.true_and, Bool.and_eq_true, Bool.and_eq_true] at h
  obtain ⟨⟨h0, h1⟩, h2⟩ := h
  rcases (by omega : f = 0 ∨ f = 1 ∨ f = 2) with rfl | rfl | rfl
  · rw [Bool.or_eq_true, decide_eq_true_eq, decide_eq_true_eq] at h0; exact h0
  · rw [Bool.or_eq_true, decide_eq_true_eq, decide_eq_true_eq] at h1; exact h1
  · rw [Bool.or_eq_true, decide_eq_true_eq, decide_eq_true_eq] at h2; exact h2
end HIT

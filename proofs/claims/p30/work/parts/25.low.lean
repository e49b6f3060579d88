/-! the least packet of a set -/
theorem popF_ob : ∀ q, q < 64 → (popF (ob q - 1) &&& 63) = nI q := by decide +kernel
theorem low_ob {x : Int64} {q : Nat} (hq : q < 64) (h : bq x q = true) (h2 : ∀ j, j < q → bq x j = false) : x &&& (-x) = ob q := by
  apply bq_ext
  intro i hi
  rw [bq_and, bq_ob q hq i hi]
  have hn : bq (-x) i = (bq x i ^^ (decide (i < 64) && decide (∃ j, j < i ∧ bq x j = true))) := by
    unfold bq
    rw [Int64.toBitVec_neg, BitVec.getLsbD_neg]
  rw [hn]
  by_cases e : i = q
  · subst e
    rw [h, decide_eq_true rfl, decide_eq_false (show ¬ ∃ j, j < i ∧ bq x j = true from fun ⟨j, hj, hb⟩ => by rw [h2 j hj] at hb; cases hb), decide_eq_true hq]
    rfl
  · rw [decide_eq_false e]
    rcases Nat.lt_or_ge i q with h3 | h3
    · rw [h2 i h3]; rfl
    · rw [decide_eq_true hi, decide_eq_true ⟨q, by omega, h⟩]
      cases bq x i <;> rfl
def lowF (x : Int64) : Int32 := popF ((x &&& (-x)) - 1) &&& 63
theorem lowestOf_eq (x : Int64) (h : Hp) : f_X9_lowestOf x h = some (lowF x, h) := rfl
theorem lowF_eq {x : Int64} {q : Nat} (hq : q < 64) (h : bq x q = true) (h2 : ∀ j, j < q → bq x j = false) : lowF x = nI q := by
  unfold lowF
  rw [low_ob hq h h2]
  exact popF_ob q hq
theorem set_first {x : Int64} (h : x ≠ 0) : ∃ q, q < 64 ∧ bq x q = true ∧ ∀ j, j < q → bq x j = false := by
  have : ∃ i, i < 64 ∧ bq x i = true := by
    apply Classical.byContradiction
    intro hn
    apply h
    rw [bq_nz]
    intro q hq
    cases hb : bq x q with
    | false => rfl
    | true => exact absurd ⟨q, hq, hb⟩ hn
  obtain ⟨i, hi, hp, hj⟩ := fb_first (p := fun i => bq x i = true) this
  exact ⟨i, hi, hp, fun j hj' => by have := hj j hj'; simpa using this⟩
/-- x without its least packet -/
theorem low_rest {x : Int64} {q : Nat} (hq : q < 64) (h : bq x q = true) (h2 : ∀ j, j < q → bq x j = false) : ∀ i, i < 64 → bq (x &&& (x - 1)) i = (bq x i && !decide (i = q)) := by
  intro i hi
  have hs : bq (x - 1) i = (bq x i ^^ decide (i ≤ q)) := by
    have e2 : x - 1 = (-x) ^^^ (-1) := by
      apply Int64.toBitVec_inj.mp
      rw [Int64.toBitVec_xor, Int64.toBitVec_sub, Int64.toBitVec_neg]
      show x.toBitVec - 1#64 = (-x.toBitVec) ^^^ (-1#64)
      rw [BitVec.neg_one_eq_allOnes, BitVec.xor_allOnes, BitVec.not_neg]
    rw [e2, bq_not _ hi]
    have hn : bq (-x) i = (bq x i ^^ (decide (i < 64) && decide (∃ j, j < i ∧ bq x j = true))) := by
      unfold bq
      rw [Int64.toBitVec_neg, BitVec.getLsbD_neg]
    rw [hn, decide_eq_true hi, Bool.true_and]
    rcases Nat.lt_or_ge q i with h3 | h3
    · rw [decide_eq_true ⟨q, h3, h⟩, decide_eq_false (by omega : ¬ i ≤ q)]
      cases bq x i <;> rfl
    · rw [decide_eq_false (show ¬ ∃ j, j < i ∧ bq x j = true from fun ⟨j, hj, hb⟩ => by rw [h2 j (by omega)] at hb; cases hb), decide_eq_true h3]
      cases bq x i <;> rfl
  rw [bq_and, hs]
  rcases Nat.lt_trichotomy i q with h3 | h3 | h3
  · rw [h2 i h3]; rfl
  · subst h3
    rw [decide_eq_true (Nat.le_refl _), decide_eq_true rfl]; cases bq x i <;> rfl
  · rw [decide_eq_false (by omega : ¬ i ≤ q), decide_eq_false (by omega : ¬ i = q)]; cases bq x i <;> rfl

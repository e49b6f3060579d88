/-! THE CLASS'S HELPERS ON PACKETS AND SETS -/
section X9
variable {h : Hp}
theorem X9_alone (p : Nat) (h : Hp) : f_X9_alone (nI p) h = some (ob p, h) := rfl
theorem X9_holds {x : Int64} {k : Nat} (hk : k < 64) (h : Hp) : f_X9_holds x (nI k) h = some (bi (bq x k), h) := by
  apply Tr.of_eq
  refine Tr.cs (fun c => Tr.ret ⟨?_, rfl⟩) (fun c => Tr.ret ⟨?_, rfl⟩)
  · rw [(shr_0 hk).mp c]; rfl
  · cases hb : bq x k with
    | true => rfl
    | false => exact absurd ((shr_0 hk).mpr hb) c
theorem X9_shiftOf : ∀ f, f < 3 → ∀ h, f_X9_shiftOf (nI f) h = some (if nI f = 0 then (4 : Int32) else if nI f = 1 then 2 else 0, h) := by
  intro f hf h
  unfold f_X9_shiftOf
  split
  · rfl
  · split <;> rfl
theorem vl_dec : ∀ p, p < 64 → ∀ f, f < 3 → ((nI p >>> ((if nI f = 0 then (4 : Int32) else if nI f = 1 then 2 else 0) &&& 31)) &&& (3 : Int32)) = nI (vlN p f) := by decide +kernel
theorem X9_valueOf {p f : Nat} (hp : p < 64) (hf : f < 3) (h : Hp) : f_X9_valueOf (nI p) (nI f) h = some (nI (vlN p f), h) := by
  apply Tr.of_eq
  exact Tr.be (X9_shiftOf f hf h) (Tr.ret ⟨vl_dec p hp f hf, rfl⟩)
theorem wv_dec : ∀ p, p < 64 → ∀ f, f < 3 → ∀ v, v < 4 → ((nI p &&& (((3 : Int32) <<< ((if nI f = 0 then (4 : Int32) else if nI f = 1 then 2 else 0) &&& 31)) ^^^ (-1 : Int32))) ||| (nI v <<< ((if nI f = 0 then (4 : Int32) else if nI f = 1 then 2 else 0) &&& 31))) = nI (wvN p f v) := by decide +kernel
theorem X9_withValue {p f v : Nat} (hp : p < 64) (hf : f < 3) (hv : v < 4) (h : Hp) : f_X9_withValue (nI p) (nI f) (nI v) h = some (nI (wvN p f v), h) := by
  apply Tr.of_eq
  exact Tr.be (X9_shiftOf f hf h) (Tr.ret ⟨wv_dec p hp f hf v hv, rfl⟩)
theorem X9_isPacket {p : Nat} (hp : p < 64) (h : Hp) : f_X9_isPacket (nI p) h = some (1, h) := by
  apply Tr.of_eq
  exact Tr.neg (nI_pos (by omega)) (Tr.neg (nI_ge (b := 64) hp (by decide)) (Tr.ret ⟨rfl, rfl⟩))
theorem ct_out {x y : Int64} {q : Nat} (hq : q < 64) (hb : bq x q = true) (h : ∀ i, i < 64 → bq y i = (bq x i && !decide (i = q))) : fb_ct (bq y) 64 + 1 = fb_ct (bq x) 64 := by
  have e := fb_ct_upd (bq x) false (i := q) (n := 64) hq
  rw [hb] at e
  have e2 : fb_ct (bq y) 64 = fb_ct (fun k => if k = q then false else bq x k) 64 := fb_ct_cong (fun i hi => by
    rw [h i hi]
    by_cases c : i = q
    · rw [if_pos c, decide_eq_true c]; cases bq x i <;> rfl
    · rw [if_neg c, decide_eq_false c]; cases bq x i <;> rfl)
  rw [e2]
  simpa using e
/-- x has c packets -/
def Cnt (x : Int64) (c : Nat) : Prop := fb_ct (bq x) 64 = c
theorem Cnt.mk (x : Int64) : ∃ c, c ≤ 64 ∧ Cnt x c := ⟨_, fb_ct_le _ 64, rfl⟩
theorem Cnt.pop {x : Int64} {c : Nat} (h : Cnt x c) : popF x = nI c := by rw [popF_ct]; exact congrArg nI h
theorem Cnt.out {x y : Int64} {q c : Nat} (hx : Cnt x c) (hq : q < 64) (hb : bq x q = true) (h : ∀ i, i < 64 → bq y i = (bq x i && !decide (i = q))) : ∃ d, Cnt y d ∧ d + 1 = c := ⟨_, rfl, (ct_out hq hb h).trans hx⟩
theorem Cnt.z {x : Int64} (h : Cnt x 0) : ∀ q, q < 64 → bq x q = false := fb_ct_zero.mp h
theorem Cnt.ne {x : Int64} {c : Nat} (h : Cnt x c) (hc : 0 < c) : x ≠ 0 := by
  intro e
  have h0 : Cnt x 0 := fb_ct_zero.mpr (fun k _ => by rw [e]; exact bq_0 k)
  have : c = 0 := h.symm.trans h0
  omega
theorem X9_ios52 {k15 : (Int64 × Int64 × Int32 × Hp) → Option (Int64 × Hp)} {l0 : Nat} {l1 : Int32} {l4 l6 : Int64} {l8 l9 : Int32} {Q : Int64 → Hp → Prop} (k : Tr (k15 (l4, l6 &&& (l6 - 1), l9 + 1, h)) Q) : Tr (f_X9_imageOfSet_52 k15 l0 l1 l4 l6 l8 l9 h) Q := k
/-- the union of the rows at a place over a set -/
theorem X9_imageOfSet {a b0 n : Nat} {set : Int64} (hk : isO h a 22) (hn : (gS h a).2 = n) (hb : b0 + 64 ≤ n) (hn2 : n < 2 ^ 30) : f_X9_imageOfSet a (nI b0) set h = some (seqI set (fun q => gL h a (b0 + q)), h) := by
  apply Tr.of_eq
  refine Tr.be (bitCount_eq set h) ?_
  obtain ⟨N, hN, hC⟩ := Cnt.mk set
  rw [hC.pop]
  refine Tr.up (N := N) (J := fun k s => s.2.2.1 = nI k ∧ s.2.2.2 = h ∧ (∃ c, Cnt s.2.1 c ∧ c + k = N) ∧ (∀ i, i < 64 → ((bq s.1 i = true ∨ ∃ q, q < 64 ∧ bq s.2.1 q = true ∧ bq (gL h a (b0 + q)) i = true) ↔ ∃ q, q < 64 ∧ bq set q = true ∧ bq (gL h a (b0 + q)) i = true))) ?_ ?_ (p := 0) ⟨rfl, rfl, ?_, fun i _ => ?_⟩ (Nat.zero_le _) (by omega)
  · intro k s kk hi hJ hk'
    obtain ⟨im, re, k0, h1⟩ := s
    obtain ⟨e1, e2, ⟨c, e3, e5⟩, e4⟩ := hJ
    dsimp only at e1 e2 e3 e4
    subst e1 e2
    dsimp only
    refine Tr.neg (nI_ge hi (by omega)) ?_
    refine Tr.be (lowestOf_eq re h1) ?_
    have hne : re ≠ 0 := e3.ne (by omega)
    obtain ⟨q, hq, hb1, hb2⟩ := set_first hne
    rw [lowF_eq hq hb1 hb2, nI_add]
    refine Tr.nmx (Tr.neg (nI_pos (by omega)) (Tr.ck hk ?_))
    have g1 : ¬ Int32.ofNat (gS h1 a).2 ≤ nI (b0 + q) := by rw [hn]; exact nI_ge (by omega) (by omega)
    refine Tr.neg g1 ?_
    have g2 : ¬ (nI (b0 + q) < 0 ∨ (gS h1 a).2 ≤ (nI (b0 + q)).toNatClampNeg) := by rw [hn]; exact nI_in (by omega) (by omega)
    refine Tr.ca ⟨hk, g2⟩ ?_
    rw [nI_clamp (by omega)]
    refine Tr.nmx (X9_ios52 (hk' _ ⟨nI_1 k, rfl, ?_, fun i hi2 => ?_⟩))
    · dsimp only
      obtain ⟨d, d1, d2⟩ := e3.out hq hb1 (low_rest hq hb1 hb2)
      exact ⟨d, d1, by omega⟩
    · dsimp only
      rw [← e4 i hi2, bq_or, Bool.or_eq_true]
      constructor
      · rintro ((h0 | h0) | ⟨x, x1, x2, x3⟩)
        · exact Or.inl h0
        · exact Or.inr ⟨q, hq, hb1, h0⟩
        · rw [low_rest hq hb1 hb2 x x1, Bool.and_eq_true] at x2
          exact Or.inr ⟨x, x1, x2.1, x3⟩
      · rintro (h0 | ⟨x, x1, x2, x3⟩)
        · exact Or.inl (Or.inl h0)
        · by_cases hx : x = q
          · subst hx; exact Or.inl (Or.inr x3)
          · exact Or.inr ⟨x, x1, by rw [low_rest hq hb1 hb2 x x1, x2, decide_eq_false hx]; rfl, x3⟩
  · intro s kk hJ
    obtain ⟨im, re, k0, h1⟩ := s
    obtain ⟨e1, e2, ⟨c, e3, e5⟩, e4⟩ := hJ
    dsimp only at e1 e2 e3 e4
    subst e1 e2
    dsimp only
    refine Tr.pos (nI_le (Nat.le_refl _) (by omega)) (Tr.ret ⟨bq_eq (fun i hi => ?_), rfl⟩)
    rw [bq_seqI, ← e4 i hi]
    have hz := Cnt.z (x := re) (by rw [show c = 0 by omega] at e3; exact e3)
    constructor
    · exact Or.inl
    · rintro (h0 | ⟨x, x1, x2, x3⟩)
      · exact h0
      · rw [hz x x1] at x2; cases x2
  · dsimp only
    exact ⟨N, hC, rfl⟩
  · dsimp only
    constructor
    · rintro (h0 | h0)
      · rw [bq_0] at h0; cases h0
      · exact h0
    · exact Or.inr
end X9

/-! Warshall's closure -/
def War (a0 : Nat → Int64) (v : Nat) (w : Nat → Int64) : Prop :=
  (∀ p, p < 64 → ∀ q, q < 64 → bq (w p) q = true → Rch a0 p q) ∧ (∀ p, p < 64 → bq (w p) p = true) ∧ (∀ p, p < 64 → ∀ q, q < 64 → bq (a0 p) q = true → bq (w p) q = true) ∧ ∀ u, u < v → ∀ p, p < 64 → ∀ q, q < 64 → bq (w p) u = true → bq (w u) q = true → bq (w p) q = true
theorem War.congr {a0 : Nat → Int64} {v : Nat} {w w2 : Nat → Int64} (h : War a0 v w) (hv : v ≤ 64) (e : ∀ p, p < 64 → w2 p = w p) : War a0 v w2 := by
  obtain ⟨h1, h2, h3, h4⟩ := h
  refine ⟨fun p hp q hq hb => h1 p hp q hq (by rw [← e p hp]; exact hb), fun p hp => by rw [e p hp]; exact h2 p hp, fun p hp q hq hb => by rw [e p hp]; exact h3 p hp q hq hb, fun u hu p hp q hq b1 b2 => ?_⟩
  rw [e p hp] at b1 ⊢
  rw [e u (by omega)] at b2
  exact h4 u hu p hp q hq b1 b2
theorem War.first (a0 : Nat → Int64) : War a0 0 (fun p => a0 p ||| ob p) := by
  refine ⟨fun p hp q hq hb => ?_, fun p hp => ?_, fun p hp q hq hb => ?_, fun u hu => absurd hu (Nat.not_lt_zero _)⟩
  · rw [bq_or, Bool.or_eq_true] at hb
    rcases hb with hb | hb
    · exact Rch.st hq hb Rch.rf
    · rw [bq_ob p hp q hq] at hb
      rw [of_decide_eq_true hb]; exact Rch.rf
  · rw [bq_or, bq_ob p hp p hp, decide_eq_true rfl, Bool.or_true]
  · rw [bq_or, hb]; rfl
theorem War.step {a0 : Nat → Int64} {v : Nat} {w : Nat → Int64} (h : War a0 v w) (hv : v < 64) : War a0 (v + 1) (fun j => if bq (w j) v = true then w j ||| w v else w j) := by
  obtain ⟨h1, h2, h3, h4⟩ := h
  have e : ∀ p q, bq (if bq (w p) v = true then w p ||| w v else w p) q = true ↔ bq (w p) q = true ∨ (bq (w p) v = true ∧ bq (w v) q = true) := by
    intro p q
    by_cases c : bq (w p) v = true
    · rw [if_pos c, bq_or, Bool.or_eq_true]
      exact ⟨fun x => x.imp id (fun y => ⟨c, y⟩), fun x => x.imp id (fun y => y.2)⟩
    · rw [if_neg c]
      exact ⟨Or.inl, fun x => x.elim id (fun y => absurd y.1 c)⟩
  refine ⟨fun p hp q hq hb => ?_, fun p hp => (e p p).mpr (Or.inl (h2 p hp)), fun p hp q hq hb => (e p q).mpr (Or.inl (h3 p hp q hq hb)), fun u hu p hp q hq b1 b2 => ?_⟩
  · rcases (e p q).mp hb with hb | ⟨x, y⟩
    · exact h1 p hp q hq hb
    · exact (h1 p hp v hv x).tr (h1 v hv q hq y)
  · have b1 := (e p u).mp b1
    have b2 := (e u q).mp b2
    refine (e p q).mpr ?_
    by_cases c : u = v
    · subst c
      have p1 : bq (w p) u = true := b1.elim id (fun x => x.1)
      exact Or.inr ⟨p1, b2.elim id (fun x => x.2)⟩
    · have hu2 : u < v := by omega
      rcases b1 with b1 | ⟨x1, x2⟩
      · rcases b2 with b2 | ⟨y1, y2⟩
        · exact Or.inl (h4 u hu2 p hp q hq b1 b2)
        · exact Or.inr ⟨h4 u hu2 p hp v hv b1 y1, y2⟩
      · rcases b2 with b2 | ⟨y1, y2⟩
        · exact Or.inr ⟨x1, h4 u hu2 v hv q hq x2 b2⟩
        · exact Or.inr ⟨x1, y2⟩
theorem War.last {a0 : Nat → Int64} {w : Nat → Int64} (h : War a0 64 w) {p : Nat} (hp : p < 64) : w p = starI a0 p := by
  obtain ⟨h1, h2, h3, h4⟩ := h
  refine bq_eq (fun q hq => ?_)
  rw [bq_starI a0 p hq]
  refine ⟨h1 p hp q hq, fun t => ?_⟩
  exact (t.ind (S := fun x => x < 64 ∧ bq (w p) x = true) (fun r q ⟨r1, r2⟩ hq hb => ⟨hq, h4 r r1 p hp q hq r2 (h3 r r1 q hq hb)⟩) ⟨hp, h2 p hp⟩).2
theorem blk_at {f : Nat → Int64} {k : Nat} {g : Nat → Int64} {n p : Nat} (h : n ≤ p) : blk f k g n (64 * k + p) = f (64 * k + p) := if_neg (by omega)
theorem upd_self {α : Type} {f : Nat → α} {k : Nat} : va_up f k (f k) = f := by
  funext j
  by_cases h : j = k
  · subst h; exact upd_eq
  · exact upd_ne h
section X1
variable {h : Hp}
theorem bi_0 {b : Bool} : bi b = 0 ↔ b = false := by cases b <;> decide
theorem X1_rep50 (L : Lay h) {k v : Nat} (hk : k < 60) (hv : v < 64) {f : Nat → Int64} {k33 : (Int32 × Hp) → Option (Unit × Hp)} {Q : Unit → Hp → Prop} (kk : Tr (k33 (nI (v + 1), wL h 31 (blk f k (fun j => if bq (f (64 * k + j)) v = true then f (64 * k + j) ||| f (64 * k + v) else f (64 * k + j)) 64))) Q) : Tr (loopN (fun kc s => f_X1_repeat_50 k33 kc 30 (nI k) (nI v) (f (64 * k + v)) s.1 s.2) 5000 ((0 : Int32), wL h 31 f)) Q := by
  refine Tr.up (N := 64) (J := fun p s => s = (nI p, wL h 31 (blk f k (fun j => if bq (f (64 * k + j)) v = true then f (64 * k + j) ||| f (64 * k + v) else f (64 * k + j)) p))) ?_ ?_ (p := 0) (by rw [blk_0]; rfl) (Nat.zero_le _) (by omega)
  · intro p s kc hp hJ hk'
    subst hJ
    dsimp only
    refine Tr.neg (nI_ge (b := 64) hp (by decide)) ?_
    refine Tr.ck (Lo_30 L) (Tr.be (X1_img L hk hp) (Tr.be (X9_holds hv _) ?_))
    rw [blk_at (Nat.le_refl _)]
    refine Tr.cs (fun c => Tr.nmx (hk' _ ?_)) (fun c => ?_)
    · have c := bi_0.mp c
      rw [nI_1, ← blk_s, if_neg (by rw [c]; decide)]
      refine congrArg (fun x => (nI (p + 1), wL h 31 x)) ?_
      have e : blk f k (fun j => if bq (f (64 * k + j)) v = true then f (64 * k + j) ||| f (64 * k + v) else f (64 * k + j)) p (64 * k + p) = f (64 * k + p) := blk_at (Nat.le_refl _)
      exact (upd_self.symm).trans (by rw [e])
    · have c : bq (f (64 * k + p)) v = true := by
        cases hb : bq (f (64 * k + p)) v with
        | true => rfl
        | false => exact absurd (by rw [hb]; rfl) c
      refine Tr.ck (Lo_30 L) (Tr.be (X1_asg L hk hp) (Tr.nmx (hk' _ ?_)))
      rw [nI_1, ← blk_s, if_pos c]
  · intro s kc hJ
    subst hJ
    refine Tr.pos (nI_le (b := 64) (Nat.le_refl _) (by decide)) (Tr.nmx ?_)
    rw [nI_1]
    exact kk
theorem X1_rep33 (L : Lay h) {k : Nat} (hk : k < 60) {f0 a0 : Nat → Int64} (hw : War a0 0 (fun p => f0 (64 * k + p))) (hf : ∀ j, j < 64 * k → f0 j = gL h 31 j) {Q : Unit → Hp → Prop} (q : ∀ f, (∀ j, j < 64 * k → f j = gL h 31 j) → War a0 64 (fun p => f (64 * k + p)) → Q () (wL h 31 f)) : Tr (loopN (fun kc s => f_X1_repeat_33 kc 30 (nI k) s.1 s.2) 5000 ((0 : Int32), wL h 31 f0)) Q := by
  refine Tr.up (N := 64) (J := fun v s => ∃ f, s = (nI v, wL h 31 f) ∧ (∀ j, j < 64 * k → f j = gL h 31 j) ∧ War a0 v (fun p => f (64 * k + p))) ?_ ?_ (p := 0) ⟨f0, rfl, hf, hw⟩ (Nat.zero_le _) (by omega)
  · intro v s kc hv hJ hk'
    obtain ⟨f, rfl, h1, h2⟩ := hJ
    dsimp only
    refine Tr.neg (nI_ge (b := 64) hv (by decide)) ?_
    refine Tr.ck (Lo_30 L) (Tr.be (X1_img L hk hv) ?_)
    refine X1_rep50 L hk hv (hk' _ ⟨_, rfl, fun j hj => ?_, ?_⟩)
    · rw [blk_out hj]; exact h1 j hj
    · exact (h2.step hv).congr (by omega) (fun p hp => blk_in hp)
  · intro s kc hJ
    obtain ⟨f, rfl, h1, h2⟩ := hJ
    exact Tr.pos (nI_le (b := 64) (Nat.le_refl _) (by decide)) (Tr.ret (q f h1 h2))
theorem X1_repeat (L : Lay h) {k a : Nat} (hk : k < 60) (ha : a < k) : Tr (f_X1_repeat 30 (nI k) (nI a) h) (fun _ h' => ∃ f, h' = wL h 31 f ∧ (∀ j, j < 64 * k → f j = gL h 31 j) ∧ ∀ p, p < 64 → f (64 * k + p) = starI (fun p => gL h 31 (64 * a + p)) p) := by
  refine Tr.up (N := 64) (J := fun p s => s = (nI p, wL h 31 (blk (gL h 31) k (fun p => gL h 31 (64 * a + p) ||| ob p) p))) ?_ ?_ (p := 0) (by rw [blk_0, wL_self]; rfl) (Nat.zero_le _) (by omega)
  · intro p s kk hp hJ hk'
    subst hJ
    dsimp only
    refine Tr.neg (nI_ge (b := 64) hp (by decide)) ?_
    refine Tr.ck (Lo_30 L) (Tr.be (X1_img L (by omega) hp) (Tr.be (X9_alone p _) (Tr.ck (Lo_30 L) (Tr.be (X1_asg L hk hp) (Tr.nmx (hk' _ ?_))))))
    rw [blk_out (by omega), nI_1, ← blk_s]
  · intro s kk hJ
    subst hJ
    refine Tr.pos (nI_le (b := 64) (Nat.le_refl _) (by decide)) ?_
    refine X1_rep33 L hk (a0 := fun p => gL h 31 (64 * a + p)) ?_ (fun j hj => blk_out hj) (fun f h1 h2 => ⟨f, rfl, h1, fun p hp => h2.last hp⟩)
    exact (War.first _).congr (by omega) (fun p hp => blk_in hp)
/-! leaves -/
theorem X1_lf103 (L : Lay h) {k p : Nat} {f : Nat → Int64} {v : Int64} {l0 : Nat} {l2 l3 l4 l5 : Int32} {k23 : (Int32 × Hp) → Option (Unit × Hp)} {Q : Unit → Hp → Prop} (hk : k < 60) (hp : p < 64) (kk : Tr (k23 (nI (p + 1), wL h 31 (va_up f (64 * k + p) v))) Q) : Tr (f_X1_evaluateLeaf_103 k23 l0 l2 l3 l4 l5 (nI p) 30 (nI k) (nI p) v (wL h 31 f)) Q := by
  refine Tr.ck (Lo_30 L) (Tr.be (X1_asg L hk hp) (Tr.nmx ?_))
  rw [nI_1]
  exact kk
theorem X1_lf94 (L : Lay h) {k p o : Nat} {f : Nat → Int64} {l0 : Nat} {l2 l3 l4 l5 : Int32} {k23 : (Int32 × Hp) → Option (Unit × Hp)} {Q : Unit → Hp → Prop} (hk : k < 60) (hp : p < 64) (kk : Tr (k23 (nI (p + 1), wL h 31 (va_up f (64 * k + p) (ob o)))) Q) : Tr (f_X1_evaluateLeaf_94 k23 l0 l2 l3 l4 l5 (nI p) (nI o) 30 (nI k) (nI p) (wL h 31 f)) Q := by
  exact Tr.be (X9_alone o _) (X1_lf103 L hk hp kk)
section LF
variable {k23 : (Int32 × Hp) → Option (Unit × Hp)} {Q : Unit → Hp → Prop} {l0 : Nat} {l2 l3 l4 l5 l6 s0 : Int32}
theorem X1_lf57n (h3 : ¬ l3 = (3 : Int32)) (kk : Tr (f_X1_evaluateLeaf_78 k23 l0 l2 l3 l4 l5 l6 s0 l6 h) Q) : Tr (f_X1_evaluateLeaf_57 k23 l0 l2 l3 l4 l5 l6 s0 h) Q := by
  unfold f_X1_evaluateLeaf_57; exact Tr.neg h3 kk
theorem X1_lf57y {v : Int32} (h3 : l3 = (3 : Int32)) (e : f_X9_withValue l6 l4 l5 h = some (v, h)) (kk : Tr (f_X1_evaluateLeaf_78 k23 l0 l2 l3 l4 l5 l6 s0 v h) Q) : Tr (f_X1_evaluateLeaf_57 k23 l0 l2 l3 l4 l5 l6 s0 h) Q := by
  unfold f_X1_evaluateLeaf_57; exact Tr.pos h3 (Tr.be e kk)
theorem X1_lf78a (h3 : ¬ l3 = (3 : Int32)) (kk : Tr (f_X1_evaluateLeaf_103 k23 l0 l2 l3 l4 l5 l6 l0 l2 l6 (0 : Int64) h) Q) : Tr (f_X1_evaluateLeaf_78 k23 l0 l2 l3 l4 l5 l6 0 s0 h) Q := by
  unfold f_X1_evaluateLeaf_78; exact Tr.pos rfl (Tr.neg h3 kk)
theorem X1_lf78b (h3 : l3 = (3 : Int32)) (kk : Tr (f_X1_evaluateLeaf_94 k23 l0 l2 l3 l4 l5 l6 s0 l0 l2 l6 h) Q) : Tr (f_X1_evaluateLeaf_78 k23 l0 l2 l3 l4 l5 l6 0 s0 h) Q := by
  unfold f_X1_evaluateLeaf_78; exact Tr.pos rfl (Tr.pos h3 kk)
theorem X1_lf78c (kk : Tr (f_X1_evaluateLeaf_94 k23 l0 l2 l3 l4 l5 l6 s0 l0 l2 l6 h) Q) : Tr (f_X1_evaluateLeaf_78 k23 l0 l2 l3 l4 l5 l6 1 s0 h) Q := by
  unfold f_X1_evaluateLeaf_78; exact Tr.neg (by decide) kk
theorem X1_lf52 (kk : Tr (f_X1_evaluateLeaf_57 k23 l0 l2 l3 l4 l5 l6 1 h) Q) : Tr (f_X1_evaluateLeaf_52 k23 l0 l2 l3 l4 l5 l6 h) Q := by
  unfold f_X1_evaluateLeaf_52; exact kk
theorem X1_lf56 (kk : Tr (f_X1_evaluateLeaf_57 k23 l0 l2 l3 l4 l5 l6 0 h) Q) : Tr (f_X1_evaluateLeaf_56 k23 l0 l2 l3 l4 l5 l6 h) Q := by
  unfold f_X1_evaluateLeaf_56; exact kk
end LF
theorem X1_leaf23 (L : Lay h) {k p c : Nat} {f : Nat → Int64} {k23 : (Int32 × Hp) → Option (Unit × Hp)} {Q : Unit → Hp → Prop} (hk : k < 60) (hp : p < 64) (hc : vcd c = true) (hc2 : c < 64) (kk : Tr (k23 (nI (p + 1), wL h 31 (va_up f (64 * k + p) (leafI c p)))) Q) : Tr (f_X1_evaluateLeaf_23 k23 30 (nI k) (nI (c / 16)) (nI (c / 4 % 4)) (nI (c % 4)) (nI p) (wL h 31 f)) Q := by
  unfold f_X1_evaluateLeaf_23
  refine Tr.neg (nI_ge (b := 64) hp (by decide)) ?_
  have h4 : c = 0 ∨ c = 16 ∨ (32 ≤ c ∧ c < 44) ∨ (48 ≤ c ∧ c < 60) := by
    unfold vcd at hc
    simp only [Bool.or_eq_true, beq_iff_eq, Bool.and_eq_true, decide_eq_true_eq] at hc
    omega
  rcases h4 with rfl | rfl | ⟨a1, a2⟩ | ⟨a1, a2⟩
  · refine Tr.neg (show ¬ nI (0 / 16) = (1 : Int32) by decide) (Tr.neg (show ¬ nI (0 / 16) = (2 : Int32) by decide) ?_)
    exact X1_lf56 (X1_lf57n (show ¬ nI (0 / 16) = (3 : Int32) by decide) (X1_lf78a (show ¬ nI (0 / 16) = (3 : Int32) by decide) (X1_lf103 L hk hp kk)))
  · refine Tr.pos (show nI (16 / 16) = (1 : Int32) by decide) ?_
    exact X1_lf52 (X1_lf57n (show ¬ nI (16 / 16) = (3 : Int32) by decide) (X1_lf78c (X1_lf94 L hk hp kk)))
  · have ek : c / 16 = 2 := by omega
    have ef : c / 4 % 4 < 3 := by omega
    rw [ek]
    refine Tr.neg (show ¬ nI 2 = (1 : Int32) by decide) (Tr.pos (show nI 2 = (2 : Int32) by decide) ?_)
    refine Tr.be (X9_valueOf hp ef _) ?_
    have el : leafI c p = if vlN p (c / 4 % 4) = c % 4 then ob p else 0 := by
      unfold leafI
      rw [if_neg (by omega), if_neg (by omega), if_pos (by omega)]
    have hv := vlN_lt p (c / 4 % 4)
    refine Tr.cs (fun e => ?_) (fun e => ?_)
    · have e := (nI_eq (by omega) (by omega)).mp e
      rw [el, if_pos e] at kk
      exact X1_lf52 (X1_lf57n (show ¬ nI 2 = (3 : Int32) by decide) (X1_lf78c (X1_lf94 L hk hp kk)))
    · have e : ¬ vlN p (c / 4 % 4) = c % 4 := fun x => e (by rw [x])
      rw [el, if_neg e] at kk
      exact X1_lf56 (X1_lf57n (show ¬ nI 2 = (3 : Int32) by decide) (X1_lf78a (show ¬ nI 2 = (3 : Int32) by decide) (X1_lf103 L hk hp kk)))
  · have ek : c / 16 = 3 := by omega
    have ef : c / 4 % 4 < 3 := by omega
    have el : leafI c p = ob (wvN p (c / 4 % 4) (c % 4)) := by
      unfold leafI
      rw [if_neg (by omega), if_neg (by omega), if_neg (by omega)]
    rw [ek]
    refine Tr.neg (show ¬ nI 3 = (1 : Int32) by decide) (Tr.neg (show ¬ nI 3 = (2 : Int32) by decide) ?_)
    rw [el] at kk
    exact X1_lf56 (X1_lf57y (show nI 3 = (3 : Int32) by decide) (X9_withValue hp ef (by omega) _) (X1_lf78b (show nI 3 = (3 : Int32) by decide) (X1_lf94 L hk hp kk)))
theorem X1_leaf (L : Lay h) {p0 k : Nat} {l : List Nat} {b : Bool} (hp : PA p0) (P : PolI h p0 l b) (hk : k < l.length) (h60 : k < 60) (hc : vcd (cf l k) = true) (hc2 : cf l k < 64) : f_X1_evaluateLeaf 30 p0 (nI k) h = some ((), wL h 31 (blk (gL h 31) k (leafI (cf l k)) 64)) := by
  apply Tr.of_eq
  refine Tr.ck (Lpo L hp) (Tr.be (X4_kindAt L hp P hk h60 (by omega)) (Tr.ck (Lpo L hp) (Tr.be (X4_fieldAt L hp P hk h60 (by omega)) (Tr.ck (Lpo L hp) (Tr.be (X4_valueAt L hp P hk h60 (by omega)) ?_)))))
  refine Tr.up (N := 64) (J := fun p s => s = (nI p, wL h 31 (blk (gL h 31) k (leafI (cf l k)) p))) ?_ ?_ (p := 0) (by rw [blk_0, wL_self]; rfl) (Nat.zero_le _) (by omega)
  · intro p s kk hp hJ hk'
    subst hJ
    dsimp only
    refine X1_leaf23 L h60 hp hc hc2 (hk' _ ?_)
    rw [blk_s]
  · intro s kk hJ
    subst hJ
    exact Tr.pos (nI_le (b := 64) (Nat.le_refl _) (by decide)) (Tr.ret ⟨rfl, rfl⟩)
end X1

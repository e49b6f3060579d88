/-! THE EVALUATOR -/
def blk (f : Nat → Int64) (k : Nat) (g : Nat → Int64) (n : Nat) : Nat → Int64 := fun j => if 64 * k ≤ j ∧ j < 64 * k + n then g (j - 64 * k) else f j
theorem blk_0 {f : Nat → Int64} {k : Nat} {g : Nat → Int64} : blk f k g 0 = f := funext fun j => if_neg (by omega)
theorem blk_s {f : Nat → Int64} {k : Nat} {g : Nat → Int64} {n : Nat} : va_up (blk f k g n) (64 * k + n) (g n) = blk f k g (n + 1) := by
  funext j
  by_cases h : j = 64 * k + n
  · subst h
    rw [upd_eq]
    unfold blk
    rw [if_pos (by omega), show 64 * k + n - 64 * k = n by omega]
  · rw [upd_ne h]
    unfold blk
    by_cases h2 : 64 * k ≤ j ∧ j < 64 * k + n
    · rw [if_pos h2, if_pos (by omega)]
    · rw [if_neg h2, if_neg (by omega)]
theorem blk_in {f : Nat → Int64} {k : Nat} {g : Nat → Int64} {n p : Nat} (h : p < n) : blk f k g n (64 * k + p) = g p := by
  unfold blk
  rw [if_pos (by omega), show 64 * k + p - 64 * k = p by omega]
theorem blk_out {f : Nat → Int64} {k : Nat} {g : Nat → Int64} {n j : Nat} (h : j < 64 * k) : blk f k g n j = f j := if_neg (by omega)
theorem idx64 (k p : Nat) : nI k * (64 : Int32) + nI p = nI (64 * k + p) := by
  rw [show (64 : Int32) = nI 64 from rfl, pk_mul, nI_add, Nat.mul_comm]
theorem mul64 (k : Nat) : nI k * (64 : Int32) = nI (64 * k) := by
  rw [show (64 : Int32) = nI 64 from rfl, pk_mul, Nat.mul_comm]
theorem sL_wL {h : Hp} {a k : Nat} {f : Nat → Int64} {x : Int64} : sL (wL h a f) a k x = wL h a (va_up f k x) := by rw [sL_w, gL_wL, wL_wL]
section X1
variable {h : Hp}
theorem X1_imageOf (L : Lay h) {k p : Nat} (hk : k < 60) (hp : p < 64) : f_X1_imageOf 30 (nI k) (nI p) h = some (gL h 31 (64 * k + p), h) := by
  apply Tr.of_eq
  refine Tr.nm (fun v e => ?_)
  rw [idx64] at e
  subst e
  refine Tr.neg (nI_pos (by omega)) (Tr.ck (Lo_30 L) (Tr.gp (Lp_30_0 L) (Tr.ck (Lk_31 L) ?_)))
  rw [Ln_31 L]
  refine Tr.neg (nI_ge (b := 3840) (by omega) (by decide)) (Tr.gp (Lp_30_0 L) (Tr.ca (La_31 L (by omega)) (Tr.ret ⟨?_, rfl⟩)))
  rw [nI_clamp (by omega)]
theorem X1_assign (L : Lay h) {k p : Nat} {v : Int64} (hk : k < 60) (hp : p < 64) : f_X1_assign 30 (nI k) (nI p) v h = some ((), sL h 31 (64 * k + p) v) := by
  apply Tr.of_eq
  refine Tr.nm (fun v e => ?_)
  rw [idx64] at e
  subst e
  refine Tr.neg (nI_pos (by omega)) (Tr.ck (Lo_30 L) (Tr.gp (Lp_30_0 L) (Tr.ck (Lk_31 L) ?_)))
  rw [Ln_31 L]
  refine Tr.neg (nI_ge (b := 3840) (by omega) (by decide)) (Tr.gp (Lp_30_0 L) (Tr.ca (La_31 L (by omega)) (Tr.ret ⟨rfl, ?_⟩)))
  rw [nI_clamp (by omega)]
/-- assigned in a world whose row is changed already -/
theorem X1_asg (L : Lay h) {k p : Nat} {v : Int64} {f : Nat → Int64} (hk : k < 60) (hp : p < 64) : f_X1_assign 30 (nI k) (nI p) v (wL h 31 f) = some ((), wL h 31 (va_up f (64 * k + p) v)) := by
  rw [X1_assign L.wL hk hp, sL_wL]
theorem X1_img (L : Lay h) {k p : Nat} {f : Nat → Int64} (hk : k < 60) (hp : p < 64) : f_X1_imageOf 30 (nI k) (nI p) (wL h 31 f) = some (f (64 * k + p), wL h 31 f) := by
  rw [X1_imageOf L.wL hk hp, gL_wL]
theorem X1_unite (L : Lay h) {k a b : Nat} (hk : k < 60) (ha : a < k) (hb : b < k) : f_X1_unite 30 (nI k) (nI a) (nI b) h = some ((), wL h 31 (blk (gL h 31) k (fun p => gL h 31 (64 * a + p) ||| gL h 31 (64 * b + p)) 64)) := by
  apply Tr.of_eq
  refine Tr.up (N := 64) (J := fun p s => s = (nI p, wL h 31 (blk (gL h 31) k (fun p => gL h 31 (64 * a + p) ||| gL h 31 (64 * b + p)) p))) ?_ ?_ (p := 0) (by rw [blk_0, wL_self]; rfl) (Nat.zero_le _) (by omega)
  · intro p s kk hp hJ hk'
    subst hJ
    dsimp only
    refine Tr.neg (nI_ge (b := 64) hp (by decide)) ?_
    refine Tr.ck (Lo_30 L) (Tr.be (X1_img L (by omega) hp) (Tr.ck (Lo_30 L) (Tr.be (X1_img L (by omega) hp) (Tr.ck (Lo_30 L) (Tr.be (X1_asg L hk hp) (Tr.nmx (hk' _ ?_)))))))
    rw [blk_out (by omega), blk_out (by omega), nI_1, ← blk_s]
  · intro s kk hJ
    subst hJ
    exact Tr.pos (nI_le (b := 64) (Nat.le_refl _) (by decide)) (Tr.ret ⟨rfl, rfl⟩)
theorem X1_chain (L : Lay h) {k a b : Nat} (hk : k < 60) (ha : a < k) (hb : b < k) : f_X1_chain 30 (nI k) (nI a) (nI b) h = some ((), wL h 31 (blk (gL h 31) k (fun p => seqI (gL h 31 (64 * a + p)) (fun q => gL h 31 (64 * b + q))) 64)) := by
  apply Tr.of_eq
  refine Tr.up (N := 64) (J := fun p s => s = (nI p, wL h 31 (blk (gL h 31) k (fun p => seqI (gL h 31 (64 * a + p)) (fun q => gL h 31 (64 * b + q))) p))) ?_ ?_ (p := 0) (by rw [blk_0, wL_self]; rfl) (Nat.zero_le _) (by omega)
  · intro p s kk hp hJ hk'
    subst hJ
    dsimp only
    refine Tr.neg (nI_ge (b := 64) hp (by decide)) ?_
    refine Tr.ck (Lo_30 L) (Tr.gp (Lp_30_0 L) (Tr.be (X1_img L (by omega) hp) ?_))
    rw [mul64]
    refine Tr.be (X9_imageOfSet (Lk_31 L) (Ln_31 L) (by omega) (by decide)) ?_
    refine Tr.ck (Lo_30 L) (Tr.be (X1_asg L hk hp) (Tr.nmx (hk' _ ?_)))
    rw [gL_wL, blk_out (by omega), nI_1, ← blk_s]
    refine congrArg (fun x => (nI (p + 1), wL h 31 (va_up (blk (gL h 31) k (fun p => seqI (gL h 31 (64 * a + p)) (fun q => gL h 31 (64 * b + q))) p) (64 * k + p) x))) ?_
    exact seqI_congr (fun q hq => blk_out (by omega))
  · intro s kk hJ
    subst hJ
    exact Tr.pos (nI_le (b := 64) (Nat.le_refl _) (by decide)) (Tr.ret ⟨rfl, rfl⟩)
theorem X1_neg30 (L : Lay h) {k p : Nat} {f : Nat → Int64} {v : Int64} {l0 : Nat} {l1 l2 : Int32} {k2 : (Int32 × Hp) → Option (Unit × Hp)} {Q : Unit → Hp → Prop} (hk : k < 60) (hp : p < 64) (kk : Tr (k2 (nI (p + 1), wL h 31 (va_up f (64 * k + p) v))) Q) : Tr (f_X1_negate_30 k2 l0 l1 l2 (nI p) 30 (nI k) (nI p) v (wL h 31 f)) Q := by
  refine Tr.ck (Lo_30 L) (Tr.be (X1_asg L hk hp) (Tr.nmx ?_))
  rw [nI_1]
  exact kk
theorem X1_negate (L : Lay h) {k a : Nat} (hk : k < 60) (ha : a < k) : f_X1_negate 30 (nI k) (nI a) h = some ((), wL h 31 (blk (gL h 31) k (fun p => if gL h 31 (64 * a + p) = 0 then ob p else 0) 64)) := by
  apply Tr.of_eq
  refine Tr.up (N := 64) (J := fun p s => s = (nI p, wL h 31 (blk (gL h 31) k (fun p => if gL h 31 (64 * a + p) = 0 then ob p else 0) p))) ?_ ?_ (p := 0) (by rw [blk_0, wL_self]; rfl) (Nat.zero_le _) (by omega)
  · intro p s kk hp hJ hk'
    subst hJ
    dsimp only
    refine Tr.neg (nI_ge (b := 64) hp (by decide)) ?_
    refine Tr.ck (Lo_30 L) (Tr.be (X1_img L (by omega) hp) ?_)
    rw [blk_out (by omega)]
    refine Tr.cs (fun c => ?_) (fun c => ?_)
    · refine Tr.be (X9_alone p _) (X1_neg30 L hk hp (hk' _ ?_))
      rw [← blk_s, if_pos ((lg_cmp_eq _ _).mp c)]
    · refine X1_neg30 L hk hp (hk' _ ?_)
      rw [← blk_s, if_neg (fun e => c ((lg_cmp_eq _ _).mpr e))]
  · intro s kk hJ
    subst hJ
    exact Tr.pos (nI_le (b := 64) (Nat.le_refl _) (by decide)) (Tr.ret ⟨rfl, rfl⟩)
theorem X1_cho33 (L : Lay h) {k a p : Nat} {f : Nat → Int64} {l0 : Nat} {l1 l2 l3 l4 : Int32} {k3 : (Int32 × Hp) → Option (Unit × Hp)} {Q : Unit → Hp → Prop} (hk : k < 60) (ha : a < 60) (hp : p < 64) (kk : Tr (k3 (nI (p + 1), wL h 31 (va_up f (64 * k + p) (f (64 * a + p))))) Q) : Tr (f_X1_choose_33 k3 l0 l1 l2 l3 l4 (nI p) 30 (nI k) (nI p) 30 (nI a) (wL h 31 f)) Q := by
  refine Tr.ck (Lo_30 L) (Tr.be (X1_img L ha hp) (Tr.ck (Lo_30 L) (Tr.be (X1_asg L hk hp) (Tr.nmx ?_))))
  rw [nI_1]
  exact kk
theorem X1_choose (L : Lay h) {k c a b : Nat} (hk : k < 60) (hc : c < k) (ha : a < k) (hb : b < k) : f_X1_choose 30 (nI k) (nI c) (nI a) (nI b) h = some ((), wL h 31 (blk (gL h 31) k (fun p => if gL h 31 (64 * c + p) = 0 then gL h 31 (64 * b + p) else gL h 31 (64 * a + p)) 64)) := by
  apply Tr.of_eq
  refine Tr.up (N := 64) (J := fun p s => s = (nI p, wL h 31 (blk (gL h 31) k (fun p => if gL h 31 (64 * c + p) = 0 then gL h 31 (64 * b + p) else gL h 31 (64 * a + p)) p))) ?_ ?_ (p := 0) (by rw [blk_0, wL_self]; rfl) (Nat.zero_le _) (by omega)
  · intro p s kk hp hJ hk'
    subst hJ
    dsimp only
    refine Tr.neg (nI_ge (b := 64) hp (by decide)) ?_
    refine Tr.ck (Lo_30 L) (Tr.be (X1_img L (by omega) hp) ?_)
    rw [blk_out (by omega)]
    refine Tr.cs (fun e => ?_) (fun e => ?_)
    · refine X1_cho33 L hk (by omega) hp (hk' _ ?_)
      rw [blk_out (by omega), ← blk_s, if_pos ((lg_cmp_eq _ _).mp e)]
    · refine X1_cho33 L hk (by omega) hp (hk' _ ?_)
      rw [blk_out (by omega), ← blk_s, if_neg (fun x => e ((lg_cmp_eq _ _).mpr x))]
  · intro s kk hJ
    subst hJ
    exact Tr.pos (nI_le (b := 64) (Nat.le_refl _) (by decide)) (Tr.ret ⟨rfl, rfl⟩)
end X1

/-! what is asked of a relation R : packets to sets -/
def lea (P : Nat → Bool) : Nat → Nat
  | 0 => 0
  | n + 1 => if lea P n < n then lea P n else if P n then n else n + 1
theorem lea_le (P : Nat → Bool) : ∀ n, lea P n ≤ n := by
  intro n
  induction n with
  | zero => exact Nat.le_refl _
  | succ n ih => unfold lea; split <;> (try split) <;> omega
theorem lea_no (P : Nat → Bool) : ∀ n j, j < lea P n → P j = false := by
  intro n
  induction n with
  | zero => intro j hj; exact absurd hj (Nat.not_lt_zero _)
  | succ n ih =>
    intro j hj
    have hl := lea_le P n
    unfold lea at hj
    split at hj
    · exact ih j hj
    · rename_i h1
      have e : lea P n = n := by omega
      split at hj
      · exact ih j (by omega)
      · rename_i h2
        by_cases c : j = n
        · subst c; simpa using h2
        · exact ih j (by omega)
theorem lea_yes (P : Nat → Bool) : ∀ n, lea P n < n → P (lea P n) = true := by
  intro n
  induction n with
  | zero => intro h; exact absurd h (Nat.not_lt_zero _)
  | succ n ih =>
    intro h
    unfold lea at h ⊢
    split
    · rename_i h1; exact ih h1
    · rename_i h1
      rw [if_neg h1] at h
      split
      · rename_i h2; exact h2
      · rename_i h2; rw [if_neg h2] at h; omega
theorem lea_eq {P : Nat → Bool} {n i : Nat} (hi : i < n) (h : P i = true) (h2 : ∀ j, j < i → P j = false) : lea P n = i := by
  rcases Nat.lt_trichotomy (lea P n) i with c | c | c
  · have := lea_yes P n (by omega)
    rw [h2 _ c] at this; cases this
  · exact c
  · rw [lea_no P n i c] at h; cases h
theorem lea_all {P : Nat → Bool} {n : Nat} (h : ∀ j, j < n → P j = false) : lea P n = n := by
  have hl := lea_le P n
  rcases Nat.lt_or_ge (lea P n) n with c | c
  · have := lea_yes P n c
    rw [h _ c] at this; cases this
  · omega
theorem lea_congr {P P2 : Nat → Bool} {n : Nat} (h : ∀ j, j < n → P j = P2 j) : lea P n = lea P2 n := by
  rcases Nat.lt_or_ge (lea P2 n) n with c | c
  · exact lea_eq c (by rw [h _ c]; exact lea_yes P2 n c) (fun j hj => by rw [h _ (by omega)]; exact lea_no P2 n j hj)
  · have := lea_le P2 n
    rw [show lea P2 n = n by omega]
    exact lea_all (fun j hj => by rw [h j hj]; exact lea_no P2 n j (by omega))
/-- the packets that aren't dropped -/
def domI (R : Nat → Int64) : Int64 := mkI (fun p => decide (R p ≠ 0)) 64
def mxF (g : Nat → Nat) : Nat → Nat
  | 0 => 0
  | n + 1 => if mxF g n < g n then g n else mxF g n
theorem mxF_congr {g g2 : Nat → Nat} : ∀ {n : Nat}, (∀ j, j < n → g j = g2 j) → mxF g n = mxF g2 n := by
  intro n
  induction n with
  | zero => intro _; rfl
  | succ n ih => intro h; unfold mxF; rw [ih (fun j hj => h j (by omega)), h n (by omega)]
theorem mxF_le {g : Nat → Nat} {B : Nat} : ∀ {n : Nat}, (∀ j, j < n → g j ≤ B) → mxF g n ≤ B := by
  intro n
  induction n with
  | zero => intro _; exact Nat.zero_le _
  | succ n ih =>
    intro h
    have := ih (fun j hj => h j (by omega))
    have := h n (by omega)
    unfold mxF; split <;> assumption
def widN (R : Nat → Int64) : Nat := mxF (fun p => fb_ct (bq (R p)) 64) 64
def suB (R S : Nat → Int64) : Nat → Bool
  | 0 => true
  | n + 1 => suB R S n && decide (R n &&& (S n ^^^ (-1)) = 0)
def ordN (R S : Nat → Int64) : Int32 := if suB R S 64 then (if suB S R 64 then 0 else 1) else (if suB S R 64 then 2 else 3)
def unlN (R S : Nat → Int64) : Nat := lea (fun j => decide (R j ≠ S j)) 64
def witN (R S : Nat → Int64) : Int32 := if unlN R S < 64 then nI (unlN R S) else -1
/-- the packets at most n steps away -/
def alI (f : Nat → Int64) (p : Nat) : Nat → Int64
  | 0 => ob p
  | n + 1 => alI f p n ||| seqI (alI f p n) f
def farN (f : Nat → Int64) (p : Nat) : Nat := lea (fun j => decide (alI f p (j + 1) = alI f p j)) 64
def rdsN (f : Nat → Int64) : Nat := mxF (farN f) 64
theorem or_0 (x : Int64) : x ||| 0 = x := bq_ext (fun q _ => by rw [bq_or, bq_0, Bool.or_false])
theorem alI_sub (f : Nat → Int64) (p n : Nat) {q : Nat} (h : bq (alI f p n) q = true) : bq (alI f p (n + 1)) q = true := by
  show bq (_ ||| _) q = true
  rw [bq_or, h]; rfl
theorem orF_congr2 {s t : Int64} {f : Nat → Int64} (h : ∀ q, q < 64 → bq s q = bq t q) : seqI s f = seqI t f := bq_eq (fun i _ => by
  rw [bq_seqI, bq_seqI]
  exact ⟨fun ⟨q, a, b, c⟩ => ⟨q, a, by rw [← h q a]; exact b, c⟩, fun ⟨q, a, b, c⟩ => ⟨q, a, by rw [h q a]; exact b, c⟩⟩)
/-- as long as it grows it has a packet more a round -/
theorem alI_grow (f : Nat → Int64) {p : Nat} (hp : p < 64) : ∀ n, (∀ j, j < n → alI f p (j + 1) ≠ alI f p j) → ∃ c, Cnt (alI f p n) c ∧ n < c ∧ c ≤ 64 := by
  intro n
  induction n with
  | zero =>
    intro _
    obtain ⟨c, h1, h2⟩ := Cnt.mk (alI f p 0)
    refine ⟨c, h2, ?_, h1⟩
    rcases Nat.eq_zero_or_pos c with h0 | h0
    · subst h0
      have := h2.z p hp
      rw [show alI f p 0 = ob p from rfl, bq_ob p hp p hp, decide_eq_true rfl] at this
      cases this
    · exact h0
  | succ n ih =>
    intro h
    obtain ⟨c, c1, c2, c3⟩ := ih (fun j hj => h j (by omega))
    obtain ⟨d, d1, d2⟩ := Cnt.mk (alI f p (n + 1))
    refine ⟨d, d2, ?_, d1⟩
    have hne := h n (by omega)
    have : ∃ q, q < 64 ∧ bq (alI f p (n + 1)) q = true ∧ bq (alI f p n) q = false := by
      apply Classical.byContradiction
      intro hn
      apply hne
      refine bq_eq (fun q hq => ⟨fun h1 => ?_, alI_sub f p n⟩)
      cases h2 : bq (alI f p n) q with
      | true => rfl
      | false => exact absurd ⟨q, hq, h1, h2⟩ hn
    obtain ⟨q, q1, q2, q3⟩ := this
    have e1 := fb_ct_upd (bq (alI f p n)) true (i := q) (n := 64) q1
    rw [q3] at e1
    have e2 : fb_ct (fun k => if k = q then true else bq (alI f p n) k) 64 ≤ fb_ct (bq (alI f p (n + 1))) 64 := fb_ct_sub (fun k hk hb => by
      by_cases c : k = q
      · rw [c]; exact q2
      · rw [if_neg c] at hb; exact alI_sub f p n hb)
    have c1 : fb_ct (bq (alI f p n)) 64 = c := c1
    have d2 : fb_ct (bq (alI f p (n + 1))) 64 = d := d2
    rw [c1] at e1
    rw [d2] at e2
    generalize fb_ct (fun k => if k = q then true else bq (alI f p n) k) 64 = y at e1 e2
    simp at e1
    omega
theorem farN_lt (f : Nat → Int64) {p : Nat} (hp : p < 64) : farN f p < 64 := by
  rcases Nat.lt_or_ge (farN f p) 64 with h | h
  · exact h
  · exfalso
    have := lea_le (fun j => decide (alI f p (j + 1) = alI f p j)) 64
    obtain ⟨c, _, c1, c2⟩ := alI_grow f hp 64 (fun j hj e => by
      have := lea_no (fun j => decide (alI f p (j + 1) = alI f p j)) 64 j (by unfold farN at h; omega)
      rw [decide_eq_true e] at this
      cases this)
    omega
theorem farN_yes (f : Nat → Int64) {p : Nat} (hp : p < 64) : alI f p (farN f p + 1) = alI f p (farN f p) := of_decide_eq_true (lea_yes (fun j => decide (alI f p (j + 1) = alI f p j)) 64 (farN_lt f hp))
theorem farN_no (f : Nat → Int64) (p : Nat) {j : Nat} (hj : j < farN f p) : alI f p (j + 1) ≠ alI f p j := of_decide_eq_false (lea_no (fun j => decide (alI f p (j + 1) = alI f p j)) 64 j hj)
theorem alI_congr {f g : Nat → Int64} (h : ∀ q, q < 64 → f q = g q) (p : Nat) : ∀ n, alI f p n = alI g p n := by
  intro n
  induction n with
  | zero => rfl
  | succ n ih => show _ ||| _ = _ ||| _; rw [ih, seqI_congr h]
theorem farN_congr {f g : Nat → Int64} (h : ∀ q, q < 64 → f q = g q) (p : Nat) : farN f p = farN g p := by
  unfold farN
  exact lea_congr (fun j _ => by rw [alI_congr h, alI_congr h])
section X6
variable {h : Hp} {s t : Nat}
theorem X6_domain (L : Lay h) (hs : s < 4) : f_X6_domain (44 + 22 * s) h = some (domI (gL h (45 + 22 * s)), h) := by
  apply Tr.of_eq
  refine Tr.up (N := 64) (J := fun p x => x = (mkI (fun p => decide (gL h (45 + 22 * s) p ≠ 0)) p, nI p, h)) ?_ ?_ (p := 0) rfl (Nat.zero_le _) (by omega)
  · intro p x kk hp hJ hk'
    subst hJ
    dsimp only
    refine Tr.neg (nI_ge (b := 64) hp (by decide)) (Tr.ck (Lso_44 L hs) (Tr.gp (Lsp_44_0 L hs) (Tr.ca (Lsa_45 L hs hp) ?_)))
    rw [nI_clamp (by omega)]
    refine Tr.cs (fun c => Tr.nmx (hk' _ ?_)) (fun c => Tr.be (X9_alone p h) (Tr.nmx (Tr.nmx (hk' _ ?_))))
    · rw [nI_1]
      have c := (lg_cmp_eq _ _).mp c
      show _ = (mkI _ p ||| _, _, h)
      rw [if_neg (by show ¬ decide (gL h (45 + 22 * s) p ≠ 0) = true; rw [c]; decide), or_0]
    · rw [nI_1]
      have c : gL h (45 + 22 * s) p ≠ 0 := fun e => c ((lg_cmp_eq _ _).mpr e)
      show _ = (mkI _ p ||| _, _, h)
      rw [if_pos (decide_eq_true c)]
  · intro x kk hJ
    subst hJ
    exact Tr.pos (nI_le (b := 64) (Nat.le_refl _) (by decide)) (Tr.ret ⟨rfl, rfl⟩)
theorem J9_max {a b : Nat} (ha : a < 2 ^ 31) (hb : b < 2 ^ 31) (h : Hp) : (if nI a < nI b then nI b else nI a) = nI (if a < b then b else a) := by
  by_cases c : a < b
  · rw [if_pos c, if_pos ((nI_ltI ha hb).mpr c)]
  · rw [if_neg c, if_neg (fun x => c ((nI_ltI ha hb).mp x))]
theorem X6_mx_bit (g : Nat → Int64) (n : Nat) : mxF (fun p => fb_ct (bq (g p)) 64) n ≤ 64 := mxF_le (fun _ _ => fb_ct_le _ 64)
end X6

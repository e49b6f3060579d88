/-! THE REFERENCE: what a row does -/
theorem vl_dec2 : ∀ p, p < 64 → ∀ f, f < 3 → ((nI p >>> (((4 : Int32) - ((2 : Int32) * nI f)) &&& 31)) &&& (3 : Int32)) = nI (vlN p f) := by decide +kernel
theorem as_dec : ∀ p, p < 64 → ∀ f, f < 3 → ∀ v, v < 4 → ((1 : Int64) <<< ((nI p + ((nI v - nI (vlN p f)) <<< (((4 : Int32) - ((2 : Int32) * nI f)) &&& 31))).toInt64 &&& 63)) = ob (wvN p f v) := by decide +kernel
section REF
variable {h : Hp} {G : St}
theorem X10_valueOf {p f : Nat} (hp : p < 64) (hf : f < 3) (h : Hp) : f_X10_valueOf (nI p) (nI f) h = some (nI (vlN p f), h) := Tr.of_eq (Tr.ret ⟨vl_dec2 p hp f hf, rfl⟩)
/-- filling the block n from R, as far as k -/
def Blk (h h1 : Hp) (n : Nat) (R : Nat → Int64) (k : Nat) : Prop := (∀ j, j < 64 * n → gL h1 139 j = gL h 139 j) ∧ (∀ p, p < k → gL h1 139 (64 * n + p) = R p) ∧ Fr (fun a => a = 139) h h1
theorem Blk.st {h1 : Hp} {n k : Nat} {R : Nat → Int64} (B : Blk h h1 n R k) : Blk h (sL h1 139 (64 * n + k) (R k)) n R (k + 1) := by
  refine ⟨fun j hj => ?_, fun p hp => ?_, B.2.2.tr (Fr.sL rfl)⟩
  · rw [gL_sL, upd_ne (by omega)]; exact B.1 j hj
  · rw [gL_sL]
    by_cases e : p = k
    · subst e; rw [upd_eq]
    · rw [upd_ne (by omega)]; exact B.2.1 p (by omega)
def SiQ (h : Hp) (n : Nat) (R : Nat → Int64) : Unit → Hp → Prop := fun _ h1 => gI h1 123 25 = nI (n + 1) ∧ EFr h h1 ∧ (∀ j, j < 64 * n → gL h1 139 j = gL h 139 j) ∧ ∀ p, p < 64 → gL h1 139 (64 * n + p) = R p
theorem X10_simple (L : Lay h) {c n : Nat} (hv : vcd c = true) (hc : c < 64) (hn : gI h 123 25 = nI n) (hn2 : n < 64) : Tr (f_X10_simple 123 (nI (sg c)) h) (SiQ h n (leafI c)) := by
  refine Tr.ck (Lo_123 L) ?_
  rw [hn]
  have e0 : (64 : Int32) * nI n = nI (64 * n) := by rw [show (64 : Int32) = nI 64 from rfl, pk_mul]
  rw [e0]
  refine Tr.nmx ?_
  refine Tr.up (N := 64) (J := fun k y => y.1 = nI k ∧ Blk h y.2 n (leafI c) k) ?_ ?_ (p := 0) ⟨rfl, fun j _ => rfl, fun p hp => absurd hp (Nat.not_lt_zero _), Fr.rf⟩ (Nat.zero_le _) (by omega)
  · intro p y kk hp hJ hk'
    obtain ⟨y1, h1⟩ := y
    obtain ⟨e, B⟩ := hJ
    dsimp only at e B
    subst e
    dsimp only
    have L1 := B.2.2.lay L
    have fin : ∀ v, v = leafI c p → Tr (kk (nI (p + 1), sL h1 139 (64 * n + p) v)) (SiQ h n (leafI c)) := fun v ev => by
      subst ev; exact hk' _ ⟨rfl, B.st⟩
    have ea : nI (64 * n) + nI p = nI (64 * n + p) := nI_add _ _
    refine Tr.neg (nI_ge (b := 64) hp (by decide)) ?_
    have leafs : ∀ {s0 v6 : Int32} {g : Nat}, (g = 0 ∨ g = 1) → nI g = nI (sg c) → c = 16 * g → Tr (f_X10_simple_54 kk 123 (nI g) (nI (64 * n)) (nI p) v6 s0 h1) (SiQ h n (leafI c)) := by
      intro s0 v6 g hg eg ec
      refine Tr.nmx (Tr.neg (nI_ge (b := 10) (by omega) (by decide)) (Tr.ck (Lo_123 L1) (Tr.gp (Lp_123_24 L1) ?_)))
      rw [ea]
      rcases hg with rfl | rfl
      · refine Tr.neg (by decide) (Tr.ca (La_139 L1 (by omega)) (Tr.nmx ?_))
        rw [nI_1, nI_clamp (by omega)]
        exact fin _ (by subst ec; rfl)
      · refine Tr.pos (by decide) (Tr.ca (La_139 L1 (by omega)) (Tr.nmx ?_))
        rw [nI_1, nI_clamp (by omega)]
        exact fin _ (by subst ec; rfl)
    rcases vcd_sg hv with ⟨ec, eg⟩ | ⟨ec, eg⟩ | ⟨ec, ed, eg⟩ | ⟨ec, ed, eg⟩ | ⟨ec, eg⟩ | ⟨ec, eg⟩ | ⟨ec, eg⟩ | ⟨ec, eg⟩ | ⟨ec, eg⟩
    · rw [eg]
      exact Tr.neg (by decide) (Tr.nmx (Tr.neg (by decide) (leafs (g := 0) (Or.inl rfl) (by rw [eg]) ec)))
    · rw [eg]
      exact Tr.neg (by decide) (Tr.nmx (Tr.neg (by decide) (leafs (g := 1) (Or.inr rfl) (by rw [eg]) ec)))
    · rw [eg]
      have f3 : c / 4 % 4 < 3 := by omega
      have es : nI (c - 22) - (10 : Int32) = nI (c - 32) := pk_sub (a := c - 22) (b := 10) (by omega)
      have ef : nI (c - 32) / (4 : Int32) = nI (c / 4 % 4) := by
        rw [show (4 : Int32) = nI 4 from rfl, pk_div (by omega) (by omega) (by omega)]; congr 1; omega
      have ev : nI (c - 32) - nI (c / 4 % 4) * (4 : Int32) = nI (c % 4) := by
        rw [show (4 : Int32) = nI 4 from rfl, pk_mul, pk_sub (by omega)]; congr 1; omega
      refine Tr.neg (nI_ge (b := 30) (by omega) (by decide)) ?_
      rw [es]
      show Tr (nm (nI (c - 32) / (4 : Int32)) _) _
      rw [ef]
      refine Tr.nmx (Tr.neg (nI_ge (b := 30) (by omega) (by decide)) ?_)
      rw [es]
      show Tr (nm (nI (c - 32) - nI (c - 32) / (4 : Int32) * (4 : Int32)) _) _
      rw [ef, ev]
      refine Tr.nmx (Tr.pos (nI_le (a := 10) (by omega) (by omega)) (Tr.neg (nI_ge (b := 30) (by omega) (by decide)) (Tr.ck (Lo_123 L1) (Tr.gp (Lp_123_24 L1) (Tr.be (X10_valueOf hp f3 h1) ?_)))))
      rw [ea]
      have el : leafI c p = if vlN p (c / 4 % 4) = c % 4 then ob p else 0 := by unfold leafI; rw [if_neg (by omega), if_neg (by omega), if_pos (by omega)]
      by_cases cc : vlN p (c / 4 % 4) = c % 4
      · refine Tr.pos (by rw [cc]) (Tr.ca (La_139 L1 (by omega)) (Tr.nmx ?_))
        rw [nI_1, nI_clamp (by omega)]
        exact fin _ (by rw [el, if_pos cc]; rfl)
      · have := vlN_lt p (c / 4 % 4)
        refine Tr.neg (nI_ne (by omega) (by omega) cc) (Tr.ca (La_139 L1 (by omega)) (Tr.nmx ?_))
        rw [nI_1, nI_clamp (by omega)]
        exact fin _ (by rw [el, if_neg cc])
    · rw [eg]
      have f3 : c / 4 % 4 < 3 := by omega
      have es : nI (c - 18) - (30 : Int32) = nI (c - 48) := pk_sub (a := c - 18) (b := 30) (by omega)
      have ef : nI (c - 48) / (4 : Int32) = nI (c / 4 % 4) := by
        rw [show (4 : Int32) = nI 4 from rfl, pk_div (by omega) (by omega) (by omega)]; congr 1; omega
      have ev : nI (c - 48) - nI (c / 4 % 4) * (4 : Int32) = nI (c % 4) := by
        rw [show (4 : Int32) = nI 4 from rfl, pk_mul, pk_sub (by omega)]; congr 1; omega
      refine Tr.pos (nI_le (a := 30) (by omega) (by omega)) ?_
      rw [es]
      show Tr (nm (nI (c - 48) / (4 : Int32)) _) _
      rw [ef]
      refine Tr.nmx (Tr.pos (nI_le (a := 30) (by omega) (by omega)) ?_)
      rw [es]
      show Tr (nm (nI (c - 48) - nI (c - 48) / (4 : Int32) * (4 : Int32)) _) _
      rw [ef, ev]
      refine Tr.nmx (Tr.pos (nI_le (a := 10) (by omega) (by omega)) (Tr.pos (nI_le (a := 30) (by omega) (by omega)) (Tr.ck (Lo_123 L1) (Tr.gp (Lp_123_24 L1) (Tr.be (X10_valueOf hp f3 h1) ?_)))))
      rw [ea]
      have el : leafI c p = ob (wvN p (c / 4 % 4) (c % 4)) := by unfold leafI; rw [if_neg (by omega), if_neg (by omega), if_neg (by omega)]
      refine Tr.ca (La_139 L1 (by omega)) (Tr.nmx ?_)
      rw [nI_1, nI_clamp (by omega)]
      exact fin _ (by rw [el]; exact as_dec p hp _ f3 _ (by omega))
    all_goals omega
  · intro y kk hJ
    obtain ⟨y1, h1⟩ := y
    obtain ⟨e, B⟩ := hJ
    dsimp only at e B
    subst e
    dsimp only
    have L1 := B.2.2.lay L
    have e123 : gI h1 123 = gI h 123 := B.2.2.I (by decide)
    refine Tr.pos (nI_le (b := 64) (Nat.le_refl _) (by decide)) (Tr.ck (Lo_123 L1) (Tr.ret ⟨?_, ⟨?_, fun i hi => ?_⟩, B.1, B.2.1⟩))
    · rw [gI_sI, upd_eq, e123, hn, nI_1]
    · exact (B.2.2.wk (fun a x => by unfold eW; omega)).tr (Fr.sI (Or.inl rfl))
    · rw [gI_sI, upd_ne hi, e123]
end REF

def npF (l0 l1 l2 : Int32) : Int32 :=
  if l0 = (4 : Int32) then (if l2 = 0 then 0 else if l1 = (4 : Int32) then 1 else 0)
  else if l0 = (5 : Int32) then (if l1 = (4 : Int32) then 1 else if l2 = 0 then 0 else if l1 = (5 : Int32) then 1 else 0)
  else if l0 = (6 : Int32) then (if l1 = (4 : Int32) then 1 else if l1 = (5 : Int32) then 1 else if l1 = (7 : Int32) then 1 else 0)
  else if l0 = (7 : Int32) then (if l1 = (4 : Int32) then 1 else if l1 = (5 : Int32) then 1 else 0)
  else 0
theorem npF_dec : ∀ K1, K1 < 9 → ∀ K2, K2 < 9 → npF (nI K1) (nI K2) (bi true) = bi (ndK K1 K2 true) ∧ npF (nI K1) (nI K2) (bi false) = bi (ndK K1 K2 false) := by decide +kernel
def owF (l0 : Int32) : Int32 := if l0 = (2 : Int32) then 3 else if l0 = (3 : Int32) then 3 else if l0 = (8 : Int32) then 4 else 1
theorem owF_dec : ∀ K, K < 9 → owF (nI K) = nI (owK K) := by decide +kernel
theorem sI_ww2 {h : Hp} {a b k : Nat} {f g : Nat → Int32} {x : Int32} : sI (wI (wI h a f) b g) b k x = wI (wI h a f) b (va_up g k x) := by rw [sI_w, gI_wI, wI_wI]
theorem sI_ww1 {h : Hp} {a b k : Nat} {f g : Nat → Int32} {x : Int32} (hab : a ≠ b) : sI (wI (wI h a f) b g) a k x = wI (wI h a (va_up f k x)) b g := by
  rw [sI_w, gI_wI_ne hab, gI_wI, wI_comm (h := wI h a f) (Ne.symm hab), wI_wI]
section X5
variable {h h0 : Hp} {s : Nat} {l : List Nat} {b : Bool}
theorem X5_np {K1 K2 : Nat} (h1 : K1 < 9) (h2 : K2 < 9) (x : Bool) (h : Hp) : f_X5_needsParentheses (nI K1) (nI K2) (bi x) h = some (bi (ndK K1 K2 x), h) := by
  have e : npF (nI K1) (nI K2) (bi x) = bi (ndK K1 K2 x) := by cases x; exact (npF_dec K1 h1 K2 h2).2; exact (npF_dec K1 h1 K2 h2).1
  rw [← e]
  unfold f_X5_needsParentheses npF
  repeat' (first | rfl | split)
theorem X5_own {K : Nat} (h1 : K < 9) (h : Hp) : f_X5_ownLength (nI K) h = some (nI (owK K), h) := by
  rw [← owF_dec K h1]
  unfold f_X5_ownLength owF
  repeat' (first | rfl | split)
def MJ (h : Hp) (s : Nat) (c : Nat → Nat) (k i : Nat) (fl fw : Nat → Int32) : Prop :=
  (∀ j, j < i → fl (opj c k j) = nI (pw c k j).length ∧ fw (opj c k j) = bi (ndj c k j)) ∧ ∀ x, (∀ j, j < i → x ≠ opj c k j) → fl x = gI h (41 + 22 * s) x ∧ fw x = gI h (42 + 22 * s) x
theorem X5_m91 (L : Lay h) (hs : s < 4) {j n i m : Nat} {k21 : (Int32 × Int32 × Hp) → Option (Int32 × Hp)} {l0 : Nat} {l2 l3 l4 : Int32} {Q : Int32 → Hp → Prop} (hj : j < 60) (e : gI h (41 + 22 * s) j = nI m) (kk : Tr (k21 (nI (n + m), nI (i + 1), h)) Q) : Tr (f_X5_measured_91 k21 (39 + 22 * s) l0 l2 l3 l4 (nI n) (nI i) (nI j) h) Q := by
  refine Tr.ck (Lso_39 L hs) (Tr.gp (Lsp_39_1 L hs) (Tr.ca (Lsa_41 L hs hj) ?_))
  rw [nI_clamp (by omega), e, nI_add]
  refine Tr.nmx (Tr.nmx ?_)
  rw [nI_1]
  exact kk
theorem X5_m66 (L : Lay h) (hs : s < 4) {c : Nat → Nat} {k i n : Nat} {fl fw : Nat → Int32} {k21 : (Int32 × Int32 × Hp) → Option (Int32 × Hp)} {l0 : Nat} {l2 l3 l4 : Int32} {Q : Int32 → Hp → Prop} (hc : ∀ k, vcd (c k) = true) (hk : k < 60) (ok : ar (c k) ≤ (rt c k).length) (hi : i < ar (c k)) (J : MJ h s c k i fl fw) (r0 : gI h (41 + 22 * s) (opj c k i) = nI (str c (opj c k i)).length) (r1 : gI h (42 + 22 * s) (opj c k i) = 0)
    (kk : ∀ fl1 fw1, MJ h s c k (i + 1) fl1 fw1 → Tr (k21 (nI (n + (pw c k i).length), nI (i + 1), wI (wI h (41 + 22 * s) fl1) (42 + 22 * s) fw1)) Q) :
    Tr (f_X5_measured_66 k21 (39 + 22 * s) l0 l2 l3 l4 (nI n) (nI i) (nI (opj c k i)) (nI (c k / 16)) (nI (c (opj c k i) / 16)) (bi (i == 0)) (wI (wI h (41 + 22 * s) fl) (42 + 22 * s) fw)) Q := by
  have hv1 := vcd_lt (hc k)
  have hv2 := vcd_lt (hc (opj c k i))
  have hj := opj_lt (c := c) (k := k) (i := i) (by omega)
  have hne : ∀ j, j < i → opj c k i ≠ opj c k j := fun j hj => opj_ne hi (by omega) ok (by omega)
  obtain ⟨f1, f2⟩ := J.2 (opj c k i) hne
  have L1 : Lay (wI (wI h (41 + 22 * s) fl) (42 + 22 * s) fw) := L
  refine Tr.be (X5_np (by omega) (by omega) _ _) ?_
  have hnd : ndK (c k / 16) (c (opj c k i) / 16) (i == 0) = ndj c k i := rfl
  rw [hnd]
  cases hb : ndj c k i with
  | false =>
    have hpw : (pw c k i).length = (str c (opj c k i)).length := by unfold pw; rw [hb]; rfl
    refine Tr.pos rfl (X5_m91 L1 hs (by omega) (m := (pw c k i).length) ?_ (kk fl fw ⟨fun j hj2 => ?_, fun x hx => J.2 x (fun j hj2 => hx j (by omega))⟩))
    · rw [gI_wI_ne (by omega), gI_wI, f1, r0, hpw]
    · by_cases e : j = i
      · subst e
        rw [f1, f2, r0, r1, hpw, hb]
        exact ⟨rfl, rfl⟩
      · exact J.1 j (by omega)
  | true =>
    have hpw : (pw c k i).length = (str c (opj c k i)).length + 2 := by unfold pw; rw [hb, wrS_len]; rfl
    refine Tr.neg (by decide) (Tr.ck (Lso_39 L1 hs) (Tr.gp (Lsp_39_2 L1 hs) (Tr.ca (Lsa_42 L1 hs (by omega)) (Tr.gp (Lsp_39_1 L1.sI hs) (Tr.ca (Lsa_41 L1.sI hs (by omega)) (Tr.ca (Lsa_41 L1.sI hs (by omega)) (Tr.nm (fun h2 e2 => ?_))))))))
    rw [nI_clamp (by omega), sI_ww2, gI_wI_ne (by omega), gI_wI, f1, r0, sI_ww1 (by omega), show (2 : Int32) = nI 2 from rfl, nI_add, ← hpw] at e2
    subst e2
    have L2 : Lay (wI (wI h (41 + 22 * s) (va_up fl (opj c k i) (nI (pw c k i).length))) (42 + 22 * s) (va_up fw (opj c k i) 1)) := L
    refine X5_m91 L2 hs (by omega) (m := (pw c k i).length) ?_ (kk _ _ ⟨fun j hj2 => ?_, fun x hx => ?_⟩)
    · rw [gI_wI_ne (by omega), gI_wI, upd_eq]
    · by_cases e : j = i
      · subst e
        rw [upd_eq, upd_eq, hb]
        exact ⟨rfl, rfl⟩
      · have hne2 : opj c k j ≠ opj c k i := fun z => hne j (by omega) z.symm
        rw [upd_ne hne2, upd_ne hne2]
        exact J.1 j (by omega)
    · rw [upd_ne (hx i (by omega)), upd_ne (hx i (by omega))]
      exact J.2 x (fun j hj2 => hx j (by omega))
theorem X5_measured (L : Lay h) (hs : s < 4) (P : PolI h (36 + 22 * s) l b) {k : Nat} (hk : k < l.length) (h60 : l.length ≤ 60) (ok : ar (cf l k) ≤ (rt (cf l) k).length) (hv : ∀ c ∈ l, vcd c = true) (hr : ∀ i, i < ar (cf l k) → gI h (41 + 22 * s) (opj (cf l) k i) = nI (str (cf l) (opj (cf l) k i)).length ∧ gI h (42 + 22 * s) (opj (cf l) k i) = 0) :
    Tr (f_X5_measured (39 + 22 * s) (36 + 22 * s) (nI k) h) (fun r h1 => r = nI (str (cf l) k).length ∧ ∃ fl fw, h1 = wI (wI h (41 + 22 * s) fl) (42 + 22 * s) fw ∧ MJ h s (cf l) k (ar (cf l k)) fl fw) := by
  have hvk := cf_vcd hv k
  have hlt := vcd_lt hvk
  have har := ar_le (cf l k)
  refine Tr.ck (Lpo L (PA_s hs)) (Tr.be (X4_kindAt L (PA_s hs) P hk (by omega) (by omega)) ?_)
  have ek : ar (16 * (cf l k / 16) + 4 * 0 + 0) = ar (cf l k) := by
    rcases vcd_cases hvk with h | h | h | h | h | h
    · unfold ar; rw [if_pos h, if_pos (by omega)]
    all_goals rw [h]
  refine Tr.be (X4_operandsOf _ (by omega) 0 (by decide) 0 (by decide) h) (Tr.be (X5_own (by omega) h) ?_)
  rw [ek]
  refine Tr.up (N := ar (cf l k)) (J := fun i x => ∃ fl fw, x = (nI (owK (cf l k / 16) + smU (fun i => (pw (cf l) k i).length) i), nI i, wI (wI h (41 + 22 * s) fl) (42 + 22 * s) fw) ∧ MJ h s (cf l) k i fl fw) ?_ ?_ (p := 0) ⟨gI h (41 + 22 * s), gI h (42 + 22 * s), ?_, fun j hj => absurd hj (Nat.not_lt_zero _), fun _ _ => ⟨rfl, rfl⟩⟩ (Nat.zero_le _) (by omega)
  · intro i x kk hi hJ hk'
    obtain ⟨fl, fw, rfl, J⟩ := hJ
    dsimp only
    have hj := opj_lt (c := cf l) (k := k) (i := i) (by omega)
    have L1 : Lay (wI (wI h (41 + 22 * s) fl) (42 + 22 * s) fw) := L
    have P1 : PolI (wI (wI h (41 + 22 * s) fl) (42 + 22 * s) fw) (36 + 22 * s) l b := P.fr (A := fun a => 41 + 22 * s ≤ a) ((Fr.wI (by show _ ≤ _; omega)).tr (Fr.wI (by show _ ≤ _; omega))) (by omega) (by omega) (by omega)
    refine Tr.neg (nI_ge hi (by omega)) (Tr.ck (Lpo L1 (PA_s hs)) (Tr.be (X4_operandAt L1 (PA_s hs) P1 (j := i) (by omega) (by omega) (by omega)) ?_))
    refine Tr.neg (nI_pos (by show opj (cf l) k i < _; omega)) (Tr.neg (nI_ge (b := 60) (by show opj (cf l) k i < _; omega) (by decide)) (Tr.ck (Lpo L1 (PA_s hs)) ?_))
    have hvj := vcd_lt (cf_vcd hv (opj (cf l) k i))
    refine Tr.be (X4_kindAt L1 (PA_s hs) P1 (k := opj (cf l) k i) (by omega) (by omega) (by omega)) ?_
    have fin := fun fl1 fw1 (q : MJ h s (cf l) k (i + 1) fl1 fw1) => hk' (nI (owK (cf l k / 16) + smU (fun i => (pw (cf l) k i).length) i + (pw (cf l) k i).length), nI (i + 1), wI (wI h (41 + 22 * s) fl1) (42 + 22 * s) fw1) ⟨fl1, fw1, by rw [Nat.add_assoc]; rfl, q⟩
    refine Tr.cs (fun c => ?_) (fun c => ?_)
    · have hz : i = 0 := (nI_eq (by omega) (by decide)).mp c
      have e1 : (1 : Int32) = bi (i == 0) := by rw [hz]; rfl
      rw [e1]
      exact X5_m66 L hs (cf_vcd hv) (by omega) ok hi J (hr i hi).1 (hr i hi).2 fin
    · have hz : i ≠ 0 := fun z => c (by rw [z]; rfl)
      have e1 : (0 : Int32) = bi (i == 0) := by
        rw [show (i == 0) = false from by simp [hz]]; rfl
      rw [e1]
      exact X5_m66 L hs (cf_vcd hv) (by omega) ok hi J (hr i hi).1 (hr i hi).2 fin
  · intro x kk hJ
    obtain ⟨fl, fw, rfl, J⟩ := hJ
    refine Tr.pos (nI_le (Nat.le_refl _) (by omega)) (Tr.ret ⟨?_, fl, fw, rfl, J⟩)
    rw [str_len hvk ok]
  · rw [wI_self, wI_self]; rfl
end X5

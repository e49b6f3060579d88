/-! THE STATE, as the document has it: length of the text, its bytes, the slots' policies, the error counters, what undo gives back (oldest first: slot and policy) -/
abbrev St : Type := Nat × (Nat → Nat) × (Nat → List Nat) × (Nat → Int32) × List (Nat × List Nat)
def failS (G : St) (e : Nat) : St := (G.1, G.2.1, G.2.2.1, va_up G.2.2.2.1 e (G.2.2.2.1 e + 1), G.2.2.2.2)
def stoS (G : St) (t : Nat) (l : List Nat) : St := (G.1, G.2.1, va_up G.2.2.1 t l, G.2.2.2.1, hSave G.2.2.2.2 t (G.2.2.1 t))
def CI (h : Hp) (G : St) : Prop := Lay h ∧ gI h 1 1 = nI G.1 ∧ G.1 ≤ 150 ∧ (∀ i, i < G.1 → gI h 2 i = nI (G.2.1 i) ∧ G.2.1 i < 128) ∧ (∀ e, e < 5 → gI h 22 e = G.2.2.2.1 e) ∧ (∀ s, s < 4 → SlotOK h s (G.2.2.1 s)) ∧ HiOK h G.2.2.2.2
/-- the class's cells -/
def cA : Nat → Prop := fun a => 1 ≤ a ∧ a ≤ 122
/-- an answer and the state behind it -/
def CP {α : Type} (h : Hp) (a : α × St) : α → Hp → Prop := fun r h1 => r = a.1 ∧ CI h1 a.2 ∧ Fr cA h h1
def sl (x : Int32) : Option Nat := if x < 0 then none else if (4 : Int32) ≤ x then none else some x.toNatClampNeg
def pk (x : Int32) : Option Nat := if x < 0 then none else if (64 : Int32) ≤ x then none else some x.toNatClampNeg
theorem sl_cases (x : Int32) : (sl x = none ∧ (x < 0 ∨ (4 : Int32) ≤ x)) ∨ ∃ s, s < 4 ∧ x = nI s ∧ sl x = some s := by
  rcases pk_ix x (n := 4) (by decide) with c | c | ⟨s, hs, rfl⟩
  · exact Or.inl ⟨if_pos c, Or.inl c⟩
  · refine Or.inl ⟨?_, Or.inr c⟩
    unfold sl
    by_cases c2 : x < 0
    · rw [if_pos c2]
    · rw [if_neg c2, if_pos (show (4 : Int32) ≤ x from c)]
  · refine Or.inr ⟨s, hs, rfl, ?_⟩
    unfold sl
    rw [if_neg (nI_pos (by omega)), if_neg (show ¬ (4 : Int32) ≤ nI s from nI_ge (b := 4) hs (by decide)), nI_clamp (by omega)]
theorem pk_cases (x : Int32) : (pk x = none ∧ (x < 0 ∨ (64 : Int32) ≤ x)) ∨ ∃ p, p < 64 ∧ x = nI p ∧ pk x = some p := by
  rcases pk_ix x (n := 64) (by decide) with c | c | ⟨s, hs, rfl⟩
  · exact Or.inl ⟨if_pos c, Or.inl c⟩
  · refine Or.inl ⟨?_, Or.inr c⟩
    unfold pk
    by_cases c2 : x < 0
    · rw [if_pos c2]
    · rw [if_neg c2, if_pos (show (64 : Int32) ≤ x from c)]
  · refine Or.inr ⟨s, hs, rfl, ?_⟩
    unfold pk
    rw [if_neg (nI_pos (by omega)), if_neg (show ¬ (64 : Int32) ≤ nI s from nI_ge (b := 64) hs (by decide)), nI_clamp (by omega)]
/-! congruences: only the packets below 64 matter -/
section CG
variable {R S R2 S2 : Nat → Int64}
theorem mkI_congr {P P2 : Nat → Bool} : ∀ {n : Nat}, (∀ j, j < n → P j = P2 j) → mkI P n = mkI P2 n := by
  intro n
  induction n with
  | zero => intro _; rfl
  | succ n ih => intro h; show _ ||| _ = _ ||| _; rw [ih (fun j hj => h j (by omega)), h n (by omega)]
theorem domI_congr (h : ∀ p, p < 64 → R p = S p) : domI R = domI S := mkI_congr (fun j hj => by rw [h j hj])
theorem widN_congr (h : ∀ p, p < 64 → R p = S p) : widN R = widN S := mxF_congr (fun j hj => by rw [h j hj])
theorem rdsN_congr (h : ∀ p, p < 64 → R p = S p) : rdsN R = rdsN S := mxF_congr (fun j _ => farN_congr h j)
theorem suB_congr (h : ∀ p, p < 64 → R p = R2 p) (k : ∀ p, p < 64 → S p = S2 p) : ∀ n, n ≤ 64 → suB R S n = suB R2 S2 n := by
  intro n
  induction n with
  | zero => intro _; rfl
  | succ n ih => intro hn; show (_ && _) = (_ && _); rw [ih (by omega), h n (by omega), k n (by omega)]
theorem ordN_congr (h : ∀ p, p < 64 → R p = R2 p) (k : ∀ p, p < 64 → S p = S2 p) : ordN R S = ordN R2 S2 := by
  unfold ordN; rw [suB_congr h k 64 (Nat.le_refl _), suB_congr k h 64 (Nat.le_refl _)]
theorem unlN_congr (h : ∀ p, p < 64 → R p = R2 p) (k : ∀ p, p < 64 → S p = S2 p) : unlN R S = unlN R2 S2 := lea_congr (fun j hj => by rw [h j hj, k j hj])
theorem witN_congr (h : ∀ p, p < 64 → R p = R2 p) (k : ∀ p, p < 64 → S p = S2 p) : witN R S = witN R2 S2 := by unfold witN; rw [unlN_congr h k]
def difF (R S : Nat → Int64) : Int32 := if unlN R S < 64 then lowF (R (unlN R S) ^^^ S (unlN R S)) else -1
end CG
section CLS
variable {h : Hp} {G : St}
theorem CI.slot (C : CI h G) {s : Nat} (hs : s < 4) : SlotOK h s (G.2.2.1 s) := C.2.2.2.2.2.1 s hs
theorem CI.up {h1 : Hp} (C : CI h G) {s : Nat} (hs : s < 4) (K : SlotOK h1 s (G.2.2.1 s)) (F : Fr (upR s) h h1) : CI h1 G := by
  obtain ⟨c1, c2, c3, c4, c5, c6, c7⟩ := C
  have out : ∀ a, a ≤ 34 → a ≠ 31 → ¬ upR s a := fun a x y z => by unfold upR at z; omega
  refine ⟨F.lay c1, by rw [F.I (out 1 (by decide) (by decide))]; exact c2, c3, by rw [F.I (out 2 (by decide) (by decide))]; exact c4, by rw [F.I (out 22 (by decide) (by decide))]; exact c5, fun t ht => ?_, c7.fr F (fun a x => out a (by unfold hiR at x; omega) (by unfold hiR at x; omega))⟩
  by_cases e : t = s
  · subst e; exact K
  · exact (c6 t ht).fr F (fun a x y z => by unfold slR at x; unfold upR at z; omega)
theorem CI.errs (C : CI h G) {e : Nat} (he : e < 5) : CI (sI h 22 e (gI h 22 e + 1)) (failS G e) := by
  obtain ⟨c1, c2, c3, c4, c5, c6, c7⟩ := C
  have F : Fr (fun a => a = 22) h (sI h 22 e (gI h 22 e + 1)) := Fr.sI rfl
  refine ⟨F.lay c1, by rw [F.I (by decide)]; exact c2, c3, by rw [F.I (by decide)]; exact c4, fun k hk => ?_, fun s hs => (c6 s hs).fr F (fun a x y z => by unfold slR at x; omega), c7.fr F (fun a x z => by unfold hiR at x; omega)⟩
  rw [gI_sI]
  show _ = va_up G.2.2.2.1 e (G.2.2.2.1 e + 1) k
  by_cases ek : k = e
  · subst ek; rw [upd_eq, upd_eq, c5 k hk]
  · rw [upd_ne ek, upd_ne ek]; exact c5 k hk
theorem X9_fail (C : CI h G) {e : Nat} {code : Int32} (he : e < 5) (hc : (-2 : Int32) - code = nI e) : f_X9_fail 1 code h = some (code, sI h 22 e (gI h 22 e + 1)) := by
  apply Tr.of_eq
  refine Tr.nm (fun v ev => ?_)
  rw [hc] at ev
  subst ev
  refine Tr.neg (nI_pos (by omega)) (Tr.neg (nI_ge (b := 5) he (by decide)) (Tr.ck (Lo_1 C.1) (Tr.gp (Lp_1_4 C.1) (Tr.ca (La_22 C.1 he) (Tr.ca (La_22 C.1 he) (Tr.ret ⟨rfl, ?_⟩))))))
  rw [nI_clamp (by omega)]
theorem X9_fl {α : Type} (C : CI h G) {e : Nat} {code : Int32} {f : Int32 → α} (he : e < 5) (hc : (-2 : Int32) - code = nI e) : Tr (ck h 1 9 (bd (f_X9_fail 1 code h) fun v h1 => some (f v, h1))) (CP h (f code, failS G e)) :=
  Tr.ck (Lo_1 C.1) (Tr.be (X9_fail C he hc) (Tr.ret ⟨rfl, C.errs he, Fr.sI (by show 1 ≤ 22 ∧ 22 ≤ 122; decide)⟩))
theorem X9_up {ρ : Type} {Q : ρ → Hp → Prop} {k : Nat → Hp → Option (ρ × Hp)} (C : CI h G) {s : Nat} (hs : s < 4) (kk : ∀ h1, CI h1 G → Drv h1 s (G.2.2.1 s) → Fr (upR s) h h1 → Tr (k (35 + 22 * s) h1) Q) :
    Tr (ck h 1 9 ((gP h 1 2).bind fun v => ca h v 23 (nI s) ((gP h v (nI s).toNatClampNeg).bind fun w => (gP h 1 6).bind fun z => ck h w 7 (bd (f_X7_upToDate w z h) k)))) Q := by
  have L := C.1
  refine Tr.ck (Lo_1 L) (Tr.gp (Lp_1_2 L) (Tr.ca (La_3 L hs) ?_))
  rw [nI_clamp (by omega)]
  refine Tr.gp (Lp_3 L hs) (Tr.gp (Lp_1_6 L) (Tr.ck (Lso_35 L hs) (Tr.bd (X7_upToDate L hs (C.slot hs)) (fun r h1 q => ?_))))
  obtain ⟨rfl, K, D, F⟩ := q
  exact kk h1 (C.up hs K F) D F
theorem upR_cA {s : Nat} (hs : s < 4) : ∀ a, upR s a → cA a := fun a x => by unfold upR at x; show 1 ≤ a ∧ a ≤ 122; omega
theorem X9_slN {x : Int32} (hx : x < 0 ∨ (4 : Int32) ≤ x) (h : Hp) : f_X9_isSlot x h = some (0, h) := by
  apply Tr.of_eq
  rcases Classical.em (x < 0) with c | c
  · exact Tr.pos c (Tr.ret ⟨rfl, rfl⟩)
  · exact Tr.neg c (Tr.pos (hx.resolve_left c) (Tr.ret ⟨rfl, rfl⟩))
theorem X9_slY {s : Nat} (hs : s < 4) (h : Hp) : f_X9_isSlot (nI s) h = some (1, h) := Tr.of_eq (Tr.neg (nI_pos (by omega)) (Tr.neg (nI_ge (b := 4) hs (by decide)) (Tr.ret ⟨rfl, rfl⟩)))
theorem X9_pkN {x : Int32} (hx : x < 0 ∨ (64 : Int32) ≤ x) (h : Hp) : f_X9_isPacket x h = some (0, h) := by
  apply Tr.of_eq
  rcases Classical.em (x < 0) with c | c
  · exact Tr.pos c (Tr.ret ⟨rfl, rfl⟩)
  · exact Tr.neg c (Tr.pos (hx.resolve_left c) (Tr.ret ⟨rfl, rfl⟩))
/-! what the calls answer -/
def oneQ {α : Type} (G : St) (x : Int32) (d : α) (f : List Nat → α) : α × St := match sl x with
  | none => (d, failS G 0)
  | some s => (f (G.2.2.1 s), G)
def twoQ {α : Type} (G : St) (x y : Int32) (d : α) (f : List Nat → List Nat → α) : α × St := match sl x with
  | none => (d, failS G 0)
  | some s => match sl y with
    | none => (d, failS G 0)
    | some t => (f (G.2.2.1 s) (G.2.2.1 t), G)
def aAppend (G : St) (v : Int32) : Int32 × St := if v < 0 then (-2, failS G 0) else if v ≤ 127 then (if G.1 < 150 then (nI (G.1 + 1), (G.1 + 1, va_up G.2.1 G.1 v.toNatClampNeg, G.2.2)) else (-5, failS G 3)) else (-2, failS G 0)
def aClear (G : St) : Int32 × St := (nI G.1, (0, G.2))
theorem X9_append (C : CI h G) (v : Int32) : Tr (f_X9_append 1 v h) (CP h (aAppend G v)) := by
  have L := C.1
  obtain ⟨c1, c2, c3, c4, c5, c6, c7⟩ := id C
  unfold aAppend
  by_cases h0 : v < 0
  · rw [if_pos h0]
    exact Tr.pos h0 (X9_fl C (by decide) (by decide))
  · by_cases h1 : v ≤ 127
    · rw [if_neg h0, if_pos h1]
      obtain ⟨k, hk, rfl⟩ := nI_of2 (M := 127) (n := 127) (by decide) h0 h1
      refine Tr.neg h0 (Tr.pos h1 (Tr.ck (Lo_1 L) ?_))
      rw [c2]
      by_cases h2 : G.1 < 150
      · have E : (if G.1 < 150 then ((nI (G.1 + 1), (G.1 + 1, va_up G.2.1 G.1 (nI k).toNatClampNeg, G.2.2)) : Int32 × St) else (-5, failS G 3)) = (nI (G.1 + 1), (G.1 + 1, va_up G.2.1 G.1 k, G.2.2)) := by rw [if_pos h2, nI_clamp (by omega)]
        rw [E]
        refine Tr.pos (nI_lt (b := 150) h2 (by decide)) (Tr.gp (Lp_1_0 L) (Tr.ca (La_2 L h2) ?_))
        rw [nI_clamp (by omega), gI_sI_ne (by decide), c2, nI_1]
        refine Tr.nm (fun h3 e3 => Tr.ret ?_)
        have F : Fr (fun a => a = 1 ∨ a = 2) h h3 := by rw [e3]; exact (Fr.sI (Or.inr rfl)).tr (Fr.sI (Or.inl rfl))
        have g1 : gI h3 1 1 = nI (G.1 + 1) := by rw [e3, gI_sI, upd_eq]
        refine ⟨g1, ⟨F.lay c1, g1, by show G.1 + 1 ≤ 150; omega, fun i hi => ?_, fun e he => by rw [F.I (by decide)]; exact c5 e he, fun s hs => (c6 s hs).fr F (fun a x y z => by unfold slR at x; omega), c7.fr F (fun a x z => by unfold hiR at x; omega)⟩, F.wk (fun a x => by show 1 ≤ a ∧ a ≤ 122; omega)⟩
        have hi : i < G.1 + 1 := hi
        rw [e3, gI_sI_ne (by decide), gI_sI]
        show va_up _ _ _ i = nI (va_up G.2.1 G.1 k i) ∧ va_up G.2.1 G.1 k i < 128
        by_cases e : i = G.1
        · subst e; rw [upd_eq, upd_eq]; exact ⟨rfl, by omega⟩
        · rw [upd_ne e, upd_ne e]; exact c4 i (by omega)
      · rw [if_neg h2]
        refine Tr.neg (nI_nlt (b := 150) (by omega) (by omega)) (Tr.be (X9_fail C (e := 3) (by decide) (by decide)) (Tr.ret ⟨rfl, C.errs (by decide), Fr.sI (by show 1 ≤ 22 ∧ 22 ≤ 122; decide)⟩))
    · rw [if_neg h0, if_neg h1]
      exact Tr.neg h0 (Tr.neg h1 (X9_fl C (by decide) (by decide)))
theorem X9_clearText (C : CI h G) : Tr (f_X9_clearText 1 h) (CP h (aClear G)) := by
  obtain ⟨c1, c2, c3, c4, c5, c6, c7⟩ := C
  refine Tr.ck (Lo_1 c1) (Tr.nmx (Tr.ret ?_))
  have F : Fr (fun a => a = 1) h (sI h 1 1 0) := Fr.sI rfl
  exact ⟨c2, ⟨F.lay c1, by rw [gI_sI, upd_eq]; rfl, by show 0 ≤ 150; omega, fun i hi => absurd hi (Nat.not_lt_zero _), fun e he => by rw [F.I (by decide)]; exact c5 e he, fun s hs => (c6 s hs).fr F (fun a x y z => by unfold slR at x; omega), c7.fr F (fun a x z => by unfold hiR at x; omega)⟩, F.wk (fun a x => by show 1 ≤ a ∧ a ≤ 122; omega)⟩
end CLS

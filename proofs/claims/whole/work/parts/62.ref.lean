/-! THE REFERENCE: its state -/
/-- the sign of a code -/
def sg (c : Nat) : Nat := if c < 32 then c / 16 else if c < 48 then c - 22 else if c < 64 then c - 18 else 46 + c / 16
def RowN (f : Nat → Int32) (off : Nat) (S : Nat → List Nat) : Prop := ∀ s, s < 4 → f (off + s) = nI (S s).length ∧ ∀ i, i < (S s).length → f (off + (4 + 60 * s + i)) = nI (sg (cf (S s) i))
/-- the slots before the changes Hs -/
def undS (Hs : List (Nat × List Nat)) (S : Nat → List Nat) : Nat → List Nat := Hs.foldr (fun e T => va_up T e.1 e.2) S
def OKG (G : St) : Prop := (∀ s, s < 4 → Wf (G.2.2.1 s)) ∧ G.2.2.2.2.length ≤ 5 ∧ ∀ e ∈ G.2.2.2.2, e.1 < 4 ∧ Wf e.2
def MI (h : Hp) (G : St) : Prop := Lay h ∧ OKG G ∧ gI h 123 5 = nI G.1 ∧ G.1 ≤ 150 ∧ (∀ i, i < G.1 → gI h 127 i = nI (G.2.1 i) ∧ G.2.1 i < 128) ∧ (∀ e, e < 5 → gI h 126 e = G.2.2.2.1 e) ∧ RowN (gI h 124) 0 G.2.2.1 ∧ gI h 123 2 = nI G.2.2.2.2.length ∧ ∀ j, j < G.2.2.2.2.length → RowN (gI h 125) (244 * j) (undS (G.2.2.2.2.drop j) G.2.2.1)
def mA : Nat → Prop := fun a => 123 ≤ a
def MP {α : Type} (h : Hp) (a : α × St) : α → Hp → Prop := fun r h1 => r = a.1 ∧ MI h1 a.2 ∧ Fr mA h h1
/-- a stack, the newest first, held from index 0 upward -/
def Stk {α : Type} (v : α → Int32) (f : Nat → Int32) : List α → Prop
  | [] => True
  | x :: t => f t.length = v x ∧ Stk v f t
theorem Stk.up {α : Type} {v : α → Int32} {f : Nat → Int32} {y : Int32} : ∀ {t : List α} {k : Nat}, Stk v f t → t.length ≤ k → Stk v (va_up f k y) t := by
  intro t
  induction t with
  | nil => intro k _ _; trivial
  | cons x t ih =>
    intro k hs hk
    rw [List.length_cons] at hk
    exact ⟨by rw [upd_ne (by omega)]; exact hs.1, ih hs.2 (by omega)⟩
theorem Stk.push {α : Type} {v : α → Int32} {f : Nat → Int32} {t : List α} (hs : Stk v f t) (x : α) : Stk v (va_up f t.length (v x)) (x :: t) := ⟨by rw [upd_eq], hs.up (Nat.le_refl _)⟩
theorem Stk.tl {α : Type} {v : α → Int32} {f : Nat → Int32} {t : List α} {x : α} (hs : Stk v f (x :: t)) : Stk v f t := hs.2
theorem bi_and (a b : Bool) : bi a &&& bi b = bi (a && b) := by cases a <;> cases b <;> rfl
theorem nI_ne {a b : Nat} (ha : a < 2 ^ 31) (hb : b < 2 ^ 31) (h : a ≠ b) : nI a ≠ nI b := fun z => h (by
  have e := congrArg Int32.toNatClampNeg z
  rwa [nI_clamp ha, nI_clamp hb] at e)
section REF
variable {h : Hp} {G : St}
/-- the cells of the reference beside the state: what it works with -/
def mW : Nat → Prop := fun a => 128 ≤ a
/-- the state's parts: unchanged fields of 123 -/
theorem MI.wk {h1 : Hp} (M : MI h G) (F : Fr (fun a => a = 123 ∨ mW a) h h1) (e2 : gI h1 123 2 = gI h 123 2) (e5 : gI h1 123 5 = gI h 123 5) : MI h1 G := by
  obtain ⟨m1, m2, m3, m4, m5, m6, m7, m8, m9⟩ := M
  have I : ∀ a, 124 ≤ a → a ≤ 127 → gI h1 a = gI h a := fun a h1 h2 => F.I (fun z => by rcases z with z | z; omega; unfold mW at z; omega)
  refine ⟨F.lay m1, m2, by rw [e5]; exact m3, m4, ?_, ?_, ?_, by rw [e2]; exact m8, ?_⟩
  · rw [I 127 (by decide) (by decide)]; exact m5
  · rw [I 126 (by decide) (by decide)]; exact m6
  · rw [I 124 (by decide) (by decide)]; exact m7
  · rw [I 125 (by decide) (by decide)]; exact m9
theorem X10_within (x : Int32) {n : Nat} (hn : n < 2 ^ 31 - 1) (h : Hp) : (ix (n + 1) x = none → f_X10_within x 0 (nI n) h = some (0, h)) ∧ ∀ k, x = nI k → k < n + 1 → f_X10_within x 0 (nI n) h = some (1, h) := by
  constructor
  · intro e
    apply Tr.of_eq
    unfold ix at e
    by_cases c : x < 0
    · exact Tr.pos c (Tr.ret ⟨rfl, rfl⟩)
    · rw [if_neg c] at e
      by_cases c2 : nI (n + 1) ≤ x
      · refine Tr.neg c (Tr.pos ?_ (Tr.ret ⟨rfl, rfl⟩))
        rw [Int32.le_iff_toInt_le] at c2
        rw [Int32.lt_iff_toInt_lt]
        have z1 : (nI (n + 1)).toInt = n + 1 := nI_toInt (by omega)
        have z2 : (nI n).toInt = n := nI_toInt (by omega)
        omega
      · rw [if_neg c2] at e; cases e
  · intro k e hk
    subst e
    apply Tr.of_eq
    exact Tr.neg (nI_pos (by omega)) (Tr.neg (nI_nlt (a := n) (b := k) (by omega) (by omega)) (Tr.ret ⟨rfl, rfl⟩))
theorem sl_ix (x : Int32) : sl x = ix 4 x := rfl
theorem pk_ix64 (x : Int32) : pk x = ix 64 x := rfl
theorem X10_isSlotN {x : Int32} (e : sl x = none) (h : Hp) : f_X10_isSlot x h = some (0, h) := Tr.of_eq (Tr.be ((X10_within x (n := 3) (by decide) h).1 e) (Tr.bz (Or.inl rfl) (Tr.ret ⟨rfl, rfl⟩)))
theorem X10_isSlotY {s : Nat} (hs : s < 4) (h : Hp) : f_X10_isSlot (nI s) h = some (1, h) := Tr.of_eq (Tr.be ((X10_within (nI s) (n := 3) (by decide) h).2 s rfl hs) (Tr.bz (Or.inr rfl) (Tr.ret ⟨rfl, rfl⟩)))
theorem X10_os {α : Type} {Q : α → Hp → Prop} {A B : Hp → Option (α × Hp)} (x : Int32) (hA : sl x = none → Tr (A h) Q) (hB : ∀ s, s < 4 → x = nI s → sl x = some s → Tr (B h) Q) : Tr (bd (f_X10_isSlot x h) fun v h2 => if v = 0 then A h2 else B h2) Q := by
  rcases sl_cases x with ⟨e, c⟩ | ⟨s, hs, e, e2⟩
  · exact Tr.be (X10_isSlotN e h) (Tr.pos rfl (hA e))
  · rw [e]
    exact Tr.be (X10_isSlotY hs h) (Tr.neg (by decide) (hB s hs e e2))
theorem MI.errs (M : MI h G) {e : Nat} (he : e < 5) : MI (sI h 126 e (gI h 126 e + 1)) (failS G e) := by
  obtain ⟨m1, m2, m3, m4, m5, m6, m7, m8, m9⟩ := M
  have F : Fr (fun a => a = 126) h (sI h 126 e (gI h 126 e + 1)) := Fr.sI rfl
  refine ⟨F.lay m1, m2, by rw [F.I (by decide)]; exact m3, m4, by rw [F.I (by decide)]; exact m5, fun k hk => ?_, by rw [F.I (by decide)]; exact m7, by rw [F.I (by decide)]; exact m8, by rw [F.I (by decide)]; exact m9⟩
  rw [gI_sI]
  show _ = va_up G.2.2.2.1 e (G.2.2.2.1 e + 1) k
  by_cases ek : k = e
  · subst ek; rw [upd_eq, upd_eq, m6 k hk]
  · rw [upd_ne ek, upd_ne ek]; exact m6 k hk
theorem X10_fails (L : Lay h) {e : Nat} {code : Int32} (he : e < 5) (hc : (-2 : Int32) - code = nI e) : f_X10_fails 123 code h = some (code, sI h 126 e (gI h 126 e + 1)) := by
  apply Tr.of_eq
  refine Tr.ck (Lo_123 L) (Tr.gp (Lp_123_3 L) (Tr.nm (fun v ev => ?_)))
  rw [hc] at ev
  subst ev
  refine Tr.ca (La_126 L he) (Tr.ca (La_126 L he) (Tr.ret ⟨rfl, ?_⟩))
  rw [nI_clamp (by omega)]
theorem X10_fl {α : Type} (M : MI h G) {e : Nat} {code : Int32} {f : Int32 → α} (he : e < 5) (hc : (-2 : Int32) - code = nI e) : Tr (ck h 123 10 (bd (f_X10_fails 123 code h) fun v h1 => some (f v, h1))) (MP h (f code, failS G e)) :=
  Tr.ck (Lo_123 M.1) (Tr.be (X10_fails M.1 he hc) (Tr.ret ⟨rfl, M.errs he, Fr.sI (by show 123 ≤ 126; decide)⟩))
theorem MI.slot (M : MI h G) {s : Nat} (hs : s < 4) : Wf (G.2.2.1 s) ∧ gI h 124 s = nI (G.2.2.1 s).length ∧ ∀ i, i < (G.2.2.1 s).length → gI h 124 (4 + 60 * s + i) = nI (sg (cf (G.2.2.1 s) i)) := by
  have := M.2.2.2.2.2.2.1 s hs
  refine ⟨M.2.1.1 s hs, ?_, fun i hi => ?_⟩
  · have e := this.1; rwa [Nat.zero_add] at e
  · have e := this.2 i hi; rwa [Nat.zero_add] at e
theorem X10_append (M : MI h G) (v : Int32) : Tr (f_X10_append 123 v h) (MP h (aAppend G v)) := by
  have L := M.1
  obtain ⟨m1, m2, m3, m4, m5, m6, m7, m8, m9⟩ := id M
  unfold aAppend
  by_cases h0 : v < 0
  · rw [if_pos h0]
    exact Tr.be ((X10_within v (n := 127) (by decide) h).1 (by unfold ix; rw [if_pos h0])) (Tr.pos rfl (X10_fl M (by decide) (by decide)))
  · by_cases h1 : v ≤ 127
    · rw [if_neg h0, if_pos h1]
      obtain ⟨k, hk, rfl⟩ := nI_of2 (M := 127) (n := 127) (by decide) h0 h1
      refine Tr.be ((X10_within (nI k) (n := 127) (by decide) h).2 k rfl (by omega)) (Tr.neg (by decide) (Tr.ck (Lo_123 L) ?_))
      rw [m3]
      by_cases h2 : G.1 < 150
      · have E : (if G.1 < 150 then ((nI (G.1 + 1), (G.1 + 1, va_up G.2.1 G.1 (nI k).toNatClampNeg, G.2.2)) : Int32 × St) else (-5, failS G 3)) = (nI (G.1 + 1), (G.1 + 1, va_up G.2.1 G.1 k, G.2.2)) := by rw [if_pos h2, nI_clamp (by omega)]
        rw [E]
        refine Tr.neg (nI_ne (b := 150) (by omega) (by omega) (by omega)) (Tr.gp (Lp_123_4 L) (Tr.ca (La_127 L h2) ?_))
        rw [nI_clamp (by omega), gI_sI_ne (by decide), m3, nI_1]
        refine Tr.nm (fun h3 e3 => Tr.ret ?_)
        have F : Fr (fun a => a = 123 ∨ a = 127) h h3 := by rw [e3]; exact (Fr.sI (Or.inr rfl)).tr (Fr.sI (Or.inl rfl))
        have g1 : gI h3 123 5 = nI (G.1 + 1) := by rw [e3, gI_sI, upd_eq]
        refine ⟨g1, ⟨F.lay m1, m2, g1, by show G.1 + 1 ≤ 150; omega, fun i hi => ?_, fun e he => by rw [F.I (by decide)]; exact m6 e he, by rw [F.I (by decide)]; exact m7, by rw [e3, gI_sI, upd_ne (by decide), gI_sI_ne (by decide)]; exact m8, by rw [F.I (by decide)]; exact m9⟩, F.wk (fun a x => by show 123 ≤ a; omega)⟩
        have hi : i < G.1 + 1 := hi
        rw [e3, gI_sI_ne (by decide), gI_sI]
        show va_up _ _ _ i = nI (va_up G.2.1 G.1 k i) ∧ va_up G.2.1 G.1 k i < 128
        by_cases e : i = G.1
        · subst e; rw [upd_eq, upd_eq]; exact ⟨rfl, by omega⟩
        · rw [upd_ne e, upd_ne e]; exact m5 i (by omega)
      · have e150 : G.1 = 150 := by omega
        rw [if_neg h2]
        refine Tr.pos (by rw [e150]; decide) (Tr.be (X10_fails L (e := 3) (by decide) (by decide)) (Tr.ret ⟨rfl, M.errs (by decide), Fr.sI (by show 123 ≤ 126; decide)⟩))
    · rw [if_neg h0, if_neg h1]
      refine Tr.be ((X10_within v (n := 127) (by decide) h).1 ?_) (Tr.pos rfl (X10_fl M (by decide) (by decide)))
      unfold ix
      rw [if_neg h0, if_pos]
      rw [Int32.le_iff_toInt_le] at h1 ⊢
      have z1 : (127 : Int32).toInt = 127 := rfl
      have z2 : (nI (127 + 1)).toInt = 128 := rfl
      omega
theorem X10_clearText (M : MI h G) : Tr (f_X10_clearText 123 h) (MP h (aClear G)) := by
  obtain ⟨m1, m2, m3, m4, m5, m6, m7, m8, m9⟩ := M
  refine Tr.ck (Lo_123 m1) (Tr.nmx (Tr.ret ?_))
  have F : Fr (fun a => a = 123) h (sI h 123 5 0) := Fr.sI rfl
  exact ⟨m3, ⟨F.lay m1, m2, by rw [gI_sI, upd_eq]; rfl, by show 0 ≤ 150; omega, fun i hi => absurd hi (Nat.not_lt_zero _), fun e he => by rw [F.I (by decide)]; exact m6 e he, by rw [F.I (by decide)]; exact m7, by rw [gI_sI, upd_ne (by decide)]; exact m8, by rw [F.I (by decide)]; exact m9⟩, F.wk (fun a x => by show 123 ≤ a; omega)⟩
theorem X10_size (M : MI h G) (x : Int32) : Tr (f_X10_size 123 x h) (MP h (aSize G x)) := by
  unfold aSize oneQ
  refine X10_os x (fun e => ?_) (fun s hs e e2 => ?_)
  · rw [e]; exact X10_fl M (by decide) (by decide)
  · rw [e2, e]
    have L := M.1
    refine Tr.ck (Lo_123 L) (Tr.gp (Lp_123_0 L) (Tr.ca (La_124 L (by omega)) (Tr.ret ⟨?_, M, Fr.rf⟩)))
    rw [nI_clamp (by omega)]
    exact (M.slot hs).2.1
end REF

/-! THE LAW: a text goes in, byte by byte -/
def tbL (B : Nat → Nat) : Nat → List Nat
  | 0 => []
  | k + 1 => tbL B k ++ (if B (7 - k) = 0 then [] else [B (7 - k)])
theorem tbL_len (B : Nat → Nat) : ∀ k, (tbL B k).length ≤ k := by
  intro k
  induction k with
  | zero => exact Nat.le_refl _
  | succ k ih =>
    show (tbL B k ++ _).length ≤ k + 1
    rw [List.length_append]
    split
    · show _ + 0 ≤ _; omega
    · show _ + 1 ≤ _; omega
/-- the state with the text w -/
def TXT (G0 G : St) (w : List Nat) : Prop := G.1 = w.length ∧ (∀ i, i < w.length → G.2.1 i = w.getD i 0) ∧ G.2.2 = G0.2.2
/-- what parsing leaves -/
def PO (G : St) (t : Nat) (R : Nat ⊕ List Nat) (told : Int32) (G' : St) : Prop := match R with
  | Sum.inl e => told = (-10 : Int32) - nI e ∧ G'.2.2.1 = G.2.2.1
  | Sum.inr l => ∃ Gc : St, Gc.2.2 = G.2.2 ∧ (told, G') = aStore Gc t l
section TYP
variable {h0 h : Hp} {G : St} {Q : Int32 → Hp → Prop}
theorem app_ok {b : Nat} (hb : b < 128) (hl : G.1 < 150) : aAppend G (nI b) = (nI (G.1 + 1), (G.1 + 1, va_up G.2.1 G.1 b, G.2.2)) := by
  unfold aAppend
  rw [if_neg (nI_pos (by omega)), if_pos (show nI b ≤ (127 : Int32) from nI_le (b := 127) (by omega) (by decide)), if_pos hl, nI_clamp (by omega)]
theorem TXT.app {G0 G : St} {w : List Nat} (T : TXT G0 G w) (b : Nat) : TXT G0 (G.1 + 1, va_up G.2.1 G.1 b, G.2.2) (w ++ [b]) := by
  obtain ⟨t1, t2, t3⟩ := T
  refine ⟨by show G.1 + 1 = _; rw [t1, List.length_append, List.length_singleton], fun i hi => ?_, t3⟩
  show va_up G.2.1 G.1 b i = _
  rw [List.length_append, List.length_singleton] at hi
  rw [List.getD_eq_getElem?_getD]
  by_cases e : i = w.length
  · rw [e, ← t1, upd_eq, t1, List.getElem?_append_right (Nat.le_refl _), Nat.sub_self]; rfl
  · rw [upd_ne (by omega), List.getElem?_append_left (by omega), ← List.getD_eq_getElem?_getD]
    exact t2 i (by omega)
theorem m8 (p : Nat) : nI (8 * (p + 1)) + (-8) = nI (8 * p) := by
  rw [show 8 * (p + 1) = 8 * p + 8 by omega, ← nI_add, Int32.add_assoc, show nI 8 + (-8 : Int32) = 0 by decide, Int32.add_zero]
theorem m56 : (56 : Int32) = nI (8 * 8) + (-8) := by decide
theorem L_parsed {v : Int64} {B : Nat → Nat} {t : Nat} {w : List Nat} {R : Nat ⊕ List Nat} {K : Int32 → Hp → Option (Int32 × Hp)} (W : WS h0 h G) (ht : t < 4) (rd : ∀ p, p < 8 → ((v >>> ((nI (8 * p)).toInt64 &&& 63)) &&& 255).toInt32 = nI (B p)) (hb : ∀ p, p < 8 → B p < 128) (hw : tbL B 8 = w) (hR : prn G.2.2.1 (fun i => w.getD i 0) w.length w.length q0 = R) (k : ∀ h1 told G', PO G t R told G' → WS h0 h1 G' → Tr (K told h1) Q) : Tr (bd (f_L_parsed 1 v (nI t) h) K) Q := by
  refine Tr.bd (Q1 := fun r h1 => ∃ G', PO G t R r G' ∧ WS h0 h1 G') ?_ (fun r h1 q => by obtain ⟨G', q1, q2⟩ := q; exact k h1 r G' q1 q2)
  have h150 := W.1.2.2.1
  refine lce (r := nI G.1) (G' := (0, G.2)) W (X9_clearText W.1) rfl (fun h1 W1 => ?_)
  refine Tr.down (J := fun p (x : Int32 × Int32 × Hp) => ∃ Gc m, x.1 = nI m ∧ m ≤ 150 ∧ x.2.1 = nI (8 * p) + (-8) ∧ p ≤ 8 ∧ WS h0 x.2.2 Gc ∧ TXT G Gc (tbL B (8 - p))) ?_ ?_ (p := 8) ⟨(0, G.2), G.1, rfl, h150, m56, Nat.le_refl _, W1, rfl, fun i hi => absurd hi (Nat.not_lt_zero _), rfl⟩ (by decide)
  · intro p x kk hJ hk'
    obtain ⟨x1, x2, h2⟩ := x
    obtain ⟨Gc, m, ea, hm, eb, hp8, W2, T2⟩ := hJ
    dsimp only at ea eb W2
    rw [m8] at eb
    subst ea eb
    dsimp only
    refine Tr.neg (nI_pos (by omega)) (Tr.neg (nI_pos (by omega)) ?_)
    rw [rd p (by omega)]
    refine Tr.nmx ?_
    have hb2 := hb p (by omega)
    have e8 : 8 - p = (8 - (p + 1)) + 1 := by omega
    have e7 : 7 - (8 - (p + 1)) = p := by omega
    refine Tr.cs (fun c => ?_) (fun c => ?_)
    · have c0 : B p = 0 := (nI_eq (b := 0) (by omega) (by decide)).mp c
      refine Tr.nmx (hk' _ ⟨Gc, m, rfl, hm, rfl, by omega, W2, ?_⟩)
      rw [e8]
      show TXT G Gc (tbL B (8 - (p + 1)) ++ (if B (7 - (8 - (p + 1))) = 0 then [] else [B (7 - (8 - (p + 1)))]))
      rw [e7, if_pos c0, List.append_nil]
      exact T2
    · have c0 : ¬ B p = 0 := fun z => c (by rw [z]; rfl)
      have hl := tbL_len B (8 - (p + 1))
      have hg := T2.1
      refine lce W2 (X9_append W2.1 (nI (B p))) (app_ok hb2 (by omega)) (fun h3 W3 => Tr.nmx (hk' _ ⟨_, Gc.1 + 1, rfl, by omega, rfl, by omega, W3, ?_⟩))
      rw [e8]
      show TXT G _ (tbL B (8 - (p + 1)) ++ (if B (7 - (8 - (p + 1))) = 0 then [] else [B (7 - (8 - (p + 1)))]))
      rw [e7, if_neg c0]
      exact T2.app _
  · intro x kk hJ
    obtain ⟨x1, x2, h2⟩ := x
    obtain ⟨Gc, m, ea, hm, eb, hp8, W2, T2⟩ := hJ
    dsimp only at ea eb W2
    subst ea eb
    dsimp only
    have T3 : TXT G Gc w := by rw [← hw]; exact T2
    obtain ⟨t1, t2, t3⟩ := T3
    have eS : Gc.2.2.1 = G.2.2.1 := by rw [t3]
    have eR : prn Gc.2.2.1 Gc.2.1 Gc.1 Gc.1 q0 = R := by
      rw [eS, t1, prn_congr t2 _ _ (Nat.le_refl _)]
      exact hR
    refine Tr.pos (by decide) ?_
    cases R with
    | inl e =>
      have ep : aParse Gc (nI t) = ((-10 : Int32) - nI e, Gc) := by simp only [aParse, sl_ok ht, eR]
      exact lce W2 (X9_parse W2.1 (nI t)) ep (fun h3 W3 => Tr.ret ⟨Gc, ⟨rfl, eS⟩, W3⟩)
    | inr l =>
      have ep : aParse Gc (nI t) = aStore Gc t l := by simp only [aParse, sl_ok ht, eR]
      refine lc W2 (a := aStore Gc t l) (by rw [← ep]; exact X9_parse W2.1 (nI t)) (fun h3 W3 => Tr.ret ⟨(aStore Gc t l).2, ⟨Gc, t3, rfl⟩, W3⟩)
end TYP
/-! letters of slots put into a word -/
def su (a b c x : Nat) : Nat := if x = 65 then 112 + a else if x = 66 then 112 + b else if x = 67 then 112 + c else x
def naN (B : Nat → Nat) : Nat → Nat
  | 0 => 0
  | k + 1 => naN B k * 256 + B (7 - k)
section FIL
variable {h : Hp} {Q : Int32 → Hp → Prop}
theorem L_filled {word : Int64} {Wd : Nat → Nat} {a b c : Nat} {K : Int64 → Hp → Option (Int32 × Hp)} (ha : a < 4) (hb : b < 4) (hc : c < 4) (rd : ∀ p, p < 8 → (word >>> ((nI (8 * p)).toInt64 &&& 63)) &&& 255 = lN (Wd p)) (wb : ∀ p, p < 8 → Wd p < 256) (ac : ∀ k, k < 8 → (lN (naN (fun p => su a b c (Wd p)) k) <<< ((8 : Int32).toInt64 &&& 63)) ||| lN (su a b c (Wd (7 - k))) = lN (naN (fun p => su a b c (Wd p)) (k + 1))) (k : Tr (K (lN (naN (fun p => su a b c (Wd p)) 8)) h) Q) : Tr (bd (f_L_filled word (nI a) (nI b) (nI c) h) K) Q := by
  refine Tr.bd (Q1 := fun r h1 => r = lN (naN (fun p => su a b c (Wd p)) 8) ∧ h1 = h) ?_ (fun r h1 q => by obtain ⟨rfl, rfl⟩ := q; exact k)
  refine Tr.down (J := fun p (x : Int64 × Int32 × Hp) => x.1 = lN (naN (fun p => su a b c (Wd p)) (8 - p)) ∧ x.2.1 = nI (8 * p) + (-8) ∧ p ≤ 8 ∧ x.2.2 = h) ?_ ?_ (p := 8) ⟨rfl, m56, Nat.le_refl _, rfl⟩ (by decide)
  · intro p x kk hJ hk'
    obtain ⟨x1, x2, h2⟩ := x
    obtain ⟨ea, eb, hp8, eh⟩ := hJ
    dsimp only at ea eb eh
    rw [m8] at eb
    subst ea eb eh
    dsimp only
    have hx := ac (8 - (p + 1)) (by omega)
    rw [show 7 - (8 - (p + 1)) = p by omega, show 8 - (p + 1) + 1 = 8 - p by omega] at hx
    have hwb := wb p (by omega)
    have let_ : ∀ s, s < 4 → ((112 : Int32) + nI s).toInt64 = lN (112 + s) := fun s hs => by rw [show (112 : Int32) = nI 112 from rfl, nI_add]; exact nI_l (by omega)
    refine Tr.neg (nI_pos (by omega)) ?_
    rw [rd p (by omega)]
    refine Tr.nmx ?_
    have dec : ∀ n, n < 256 → (lg_cmp (lN (Wd p)) (lN n) = 0 ↔ Wd p = n) := fun n hn => by rw [lg_cmp_eq, pk_lEQ (by omega) (by omega)]
    by_cases c1 : Wd p = 65
    · refine Tr.pos ((dec 65 (by decide)).mpr c1) (Tr.be (r := lN (112 + a)) (h1 := h2) ?_ (Tr.nmx (Tr.nmx (hk' _ ⟨?_, rfl, by omega, rfl⟩))))
      · show some (((112 : Int32) + nI a).toInt64, h2) = _
        rw [let_ a ha]
      · rw [show su a b c (Wd p) = 112 + a from if_pos c1] at hx
        exact hx
    refine Tr.neg (fun z => c1 ((dec 65 (by decide)).mp z)) ?_
    by_cases c2 : Wd p = 66
    · refine Tr.pos ((dec 66 (by decide)).mpr c2) (Tr.be (r := lN (112 + b)) (h1 := h2) ?_ (Tr.nmx (Tr.nmx (hk' _ ⟨?_, rfl, by omega, rfl⟩))))
      · show some (((112 : Int32) + nI b).toInt64, h2) = _
        rw [let_ b hb]
      · rw [show su a b c (Wd p) = 112 + b from (if_neg c1).trans (if_pos c2)] at hx
        exact hx
    refine Tr.neg (fun z => c2 ((dec 66 (by decide)).mp z)) ?_
    by_cases c3 : Wd p = 67
    · refine Tr.pos ((dec 67 (by decide)).mpr c3) (Tr.be (r := lN (112 + c)) (h1 := h2) ?_ (Tr.nmx (Tr.nmx (hk' _ ⟨?_, rfl, by omega, rfl⟩))))
      · show some (((112 : Int32) + nI c).toInt64, h2) = _
        rw [let_ c hc]
      · rw [show su a b c (Wd p) = 112 + c from (if_neg c1).trans ((if_neg c2).trans (if_pos c3))] at hx
        exact hx
    refine Tr.neg (fun z => c3 ((dec 67 (by decide)).mp z)) (Tr.nmx (Tr.nmx (hk' _ ⟨?_, rfl, by omega, rfl⟩)))
    rw [show su a b c (Wd p) = Wd p from (if_neg c1).trans ((if_neg c2).trans (if_neg c3))] at hx
    exact hx
  · intro x kk hJ
    obtain ⟨x1, x2, h2⟩ := x
    obtain ⟨ea, eb, hp8, eh⟩ := hJ
    dsimp only at ea eb eh
    subst ea eb eh
    dsimp only
    exact Tr.pos (by decide) (Tr.ret ⟨rfl, rfl⟩)
end FIL

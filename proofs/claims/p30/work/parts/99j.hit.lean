/-! THE LAW: the row that a packet hits makes of it what the policy does -/
theorem a_div : ∀ a, a < 125 → nI a / 25 = nI (a / 25) ∧ nI a / 5 - nI a / 5 / 5 * 5 = nI (a / 5 % 5) ∧ nI a - nI a / 5 * 5 = nI (a % 5) := by decide +kernel
theorem p_div : ∀ p, p < 64 → nI p / 16 = nI (p / 16) ∧ nI p / 4 - nI p / 4 / 4 * 4 = nI (p / 4 % 4) ∧ nI p - nI p / 4 * 4 = nI (p % 4) := by decide +kernel
section LHT
variable {h0 h : Hp} {G : St} {Q : Int32 → Hp → Prop}
theorem ht199 {k84 : (Int32 × Int64 × Int32 × Int32 × Hp) → Option (Int32 × Hp)} {l0 : Nat} {l1 l2 l4 l7 l10 l11 : Int32} {l5 l8 : Int64} {k x y z : Nat} (t : Tr (k84 (l7, l8 ||| ob (16 * x + 4 * y + z), l11, nI (k + 1), h)) Q) : Tr (f_L_isHit_199 k84 l0 l1 l2 l4 l5 l7 l8 l10 l11 (nI k) (nI x) (nI y) (nI z) h) Q := by
  have e : ((16 : Int32) * nI x + (4 : Int32) * nI y) + nI z = nI (16 * x + 4 * y + z) := by
    rw [show (16 : Int32) = nI 16 from rfl, show (4 : Int32) = nI 4 from rfl, pk_mul, pk_mul, nI_add, nI_add]
  refine Tr.nmx ?_
  rw [e, nI_1]
  exact Tr.nmx t
theorem ht126 {k84 : (Int32 × Int64 × Int32 × Int32 × Hp) → Option (Int32 × Hp)} {l0 : Nat} {l1 l4 l10 : Int32} {l5 l8 : Int64} {k a p : Nat} (ha : a < 125) (hp : p < 64) (t : Tr (k84 (1, l8 ||| ob (gq p a), nI a, nI (k + 1), h)) Q) : Tr (f_L_isHit_126 k84 l0 l1 (nI p) l4 l5 l8 l10 (nI k) (nI a) 1 h) Q := by
  obtain ⟨a1, a2, a3⟩ := a_div a ha
  obtain ⟨p1, p2, p3⟩ := p_div p hp
  have eq4 : ∀ {n : Nat}, n < 2 ^ 31 → (nI n = 4 ↔ n = 4) := fun hn => nI_4 hn
  have s3 : ∀ x y, gq p a = 16 * x + 4 * y + (if a % 5 = 4 then p % 4 else a % 5) → Tr (f_L_isHit_179 k84 l0 l1 (nI p) l4 l5 1 l8 l10 (nI a) (nI k) (nI a) (nI x) (nI y) h) Q := by
    intro x y e
    by_cases c : a % 5 = 4
    · rw [if_pos c] at e
      refine Tr.pos (by rw [a3, c]; rfl) ?_
      rw [p3]
      exact ht199 (by rw [← e]; exact t)
    · rw [if_neg c] at e
      refine Tr.neg (by rw [a3]; exact fun z => c ((eq4 (by omega)).mp z)) ?_
      rw [a3]
      exact ht199 (by rw [← e]; exact t)
  have s2 : ∀ x, gq p a = 16 * x + 4 * (if a / 5 % 5 = 4 then p / 4 % 4 else a / 5 % 5) + (if a % 5 = 4 then p % 4 else a % 5) → Tr (f_L_isHit_153 k84 l0 l1 (nI p) l4 l5 1 l8 l10 (nI a) (nI k) (nI a) (nI x) h) Q := by
    intro x e
    refine Tr.nmx ?_
    by_cases c : a / 5 % 5 = 4
    · rw [if_pos c] at e
      refine Tr.pos (by rw [a2, c]; rfl) (Tr.nmx ?_)
      rw [p2]
      exact s3 x _ e
    · rw [if_neg c] at e
      refine Tr.neg (by rw [a2]; exact fun z => c ((eq4 (by omega)).mp z)) (Tr.nmx ?_)
      rw [a2]
      exact s3 x _ e
  by_cases c : a / 25 = 4
  · refine Tr.pos (by rw [a1, c]; rfl) ?_
    rw [p1]
    refine s2 _ ?_
    unfold gq; rw [if_pos c]
  · refine Tr.neg (by rw [a1]; exact fun z => c ((eq4 (by omega)).mp z)) ?_
    rw [a1]
    refine s2 _ ?_
    unfold gq; rw [if_neg c]
theorem ht289 {k230 : (Int32 × Int32 × Hp) → Option (Int32 × Hp)} {l0 : Nat} {l1 l2 l4 l10 : Int32} {l5 l8 : Int64} {f : Nat} {x : Int32} (t : Tr (k230 (1, nI (f + 1), h)) Q) : Tr (f_L_isHit_289 k230 l0 l1 l2 l4 l5 l8 l10 (nI f) x x h) Q := by
  refine Tr.pos rfl ?_
  rw [nI_1]
  exact Tr.nmx t
/-- behind the actions -/
theorem ht230 (W : WS h0 h G) {s p r : Nat} (hs : s < 4) (hp : p < 64) (hr : r < tN (G.2.2.1 s)) (h1 : mtF ((tR (G.2.2.1 s)).getD r (0, 0)).1 p 3 = true) (hh : hitN (tR (G.2.2.1 s)) (tN (G.2.2.1 s)) p = nI r) (he : (lD (G.2.2.1 s)).getD ((tR (G.2.2.1 s)).getD r (0, 0)).2 (0, 0) = acts (evI (G.2.2.1 s)) p) : Tr (loopN (fun k x => f_L_isHit_230 k 1 (nI s) (nI p) (nI r) (evI (G.2.2.1 s) p) x.1 (evI (G.2.2.1 s) p) (nI (tot (acts (evI (G.2.2.1 s)) p))) x.2.1 x.2.2) 5000 (1, (0 : Int32), h)) (LOK h0 G.2.2.1) := by
  obtain ⟨p1, p2, p3⟩ := p_div p hp
  have ht := tot_le (R := evI (G.2.2.1 s)) (p := p)
  refine Tr.up (N := 3) (J := fun f (x : Int32 × Int32 × Hp) => x.1 = 1 ∧ x.2.1 = nI f ∧ WS h0 x.2.2 G) ?_ ?_ (p := 0) ⟨rfl, rfl, W⟩ (Nat.zero_le _) (by omega)
  · intro f x kk hf hJ hk'
    obtain ⟨x1, x2, h2⟩ := x
    obtain ⟨ea, eb, W2⟩ := hJ
    dsimp only at ea eb W2
    subst ea eb
    dsimp only
    refine Tr.neg (nI_ge (b := 3) hf (by decide)) (c_match W2 hs hr hf (fun h3 W3 => Tr.neg (by decide) ?_))
    have hm := mt_get h1 hf
    generalize eF ((tR (G.2.2.1 s)).getD r (0, 0)).1 f = d at hm ⊢
    refine Tr.cs (fun _ => ?_) (fun c => ?_)
    · rw [nI_1]; exact Tr.nmx (hk' _ ⟨rfl, rfl, W3⟩)
    · have hm := hm.resolve_left c
      subst hm
      have tt : Tr (kk (1, nI (f + 1), h3)) (LOK h0 G.2.2.1) := hk' _ ⟨rfl, rfl, W3⟩
      rcases (by omega : f = 0 ∨ f = 1 ∨ f = 2) with rfl | rfl | rfl
      · refine Tr.pos rfl ?_
        have e : vlN p 0 = p / 16 := by show p / 16 % 4 = p / 16; omega
        rw [p1, e]
        exact ht289 tt
      · refine Tr.neg (by decide) (Tr.pos rfl (Tr.nmx ?_))
        rw [p2]
        exact ht289 tt
      · refine Tr.neg (by decide) (Tr.neg (by decide) ?_)
        rw [p3]
        exact ht289 tt
  · intro x kk hJ
    obtain ⟨x1, x2, h2⟩ := x
    obtain ⟨ea, eb, W2⟩ := hJ
    dsimp only at ea eb W2
    subst ea eb
    dsimp only
    refine Tr.pos (nI_le (b := 3) (Nat.le_refl _) (by decide)) (Tr.neg (by decide) (Tr.pos (lg_same _) (c_action W2 hs hr (m1_le (by omega)) (fun h3 W3 => ?_))))
    rw [row_act (by omega) he, act_end]
    refine Tr.pos rfl (c_hits W3 hs hr (fun h4 W4 => ?_))
    have hpos : 0 < hitsN (tR (G.2.2.1 s)) (tN (G.2.2.1 s)) (nI r) := fb_ct_pos.mpr ⟨p, hp, decide_eq_true hh⟩
    have hle : hitsN (tR (G.2.2.1 s)) (tN (G.2.2.1 s)) (nI r) ≤ 64 := fb_ct_le _ _
    generalize hitsN (tR (G.2.2.1 s)) (tN (G.2.2.1 s)) (nI r) = n at hpos hle ⊢
    exact Tr.neg (nI_nle hpos (by omega)) (Tr.ret ⟨rfl, G, W4, rfl⟩)
theorem L_isHit (W : WS h0 h G) {s p : Nat} (hs : s < 4) (hp : p < 64) : Tr (f_L_isHit 1 (nI s) (nI p) h) (LOK h0 G.2.2.1) := by
  obtain ⟨r, hr, r1, r2, he⟩ := row_of (G.2.2.1 s) hp
  have hh := hit_is hr r1 r2
  have n1 := tN_le (G.2.2.1 s)
  have n2 := tR_len (G.2.2.1 s)
  refine c_rows W hs (fun h1 W1 => c_hit W1 hs hp (fun h2 W2 => c_outputs W2 hs hp (fun h3 W3 => ?_)))
  by_cases c : r < tN (G.2.2.1 s)
  · rw [if_pos c] at hh
    rw [hh]
    have nm : ¬ nI r < (-1 : Int32) := fun z => by
      have h5 := nI_pos (n := r) (by omega)
      rw [Int32.lt_iff_toInt_lt] at z h5
      have z0 : (0 : Int32).toInt = 0 := rfl
      have z1 : (-1 : Int32).toInt = -1 := rfl
      omega
    refine Tr.neg nm (Tr.neg (nI_ge (b := tN (G.2.2.1 s)) c (by omega)) (Tr.neg (no_m1 (k := r) (by omega)) (c_action W3 hs c m1_le' (fun h4 W4 => ?_))))
    rw [row_some he]
    have ht := tot_le (R := evI (G.2.2.1 s)) (p := p)
    refine Tr.up (N := tot (acts (evI (G.2.2.1 s)) p)) (J := fun k (x : Int32 × Int64 × Int32 × Int32 × Hp) => x.1 = 1 ∧ MK (evI (G.2.2.1 s)) p k x.2.1 ∧ ((k = 0 ∧ x.2.2.1 = -1) ∨ ∃ a, x.2.2.1 = nI a ∧ a < 125 ∧ fb_ct (hA (acts (evI (G.2.2.1 s)) p)) a + 1 = k) ∧ x.2.2.2.1 = nI k ∧ WS h0 x.2.2.2.2 G) ?_ ?_ (p := 0) ⟨rfl, MK_0, Or.inl ⟨rfl, rfl⟩, rfl, W4⟩ (Nat.zero_le _) (by omega)
    · intro k x kk hk hJ hk'
      obtain ⟨x1, x2, x3, x4, h5⟩ := x
      obtain ⟨ea, M, hl, eb, W5⟩ := hJ
      dsimp only at ea M hl eb W5
      subst ea eb
      dsimp only
      refine Tr.neg (nI_ge (b := tot (acts (evI (G.2.2.1 s)) p)) hk (by omega)) (Tr.neg (by decide) (c_action W5 hs c (m1_le (by omega)) (fun h6 W6 => ?_)))
      obtain ⟨a, a1, a2, a3, a4⟩ := act_k hk
      rw [row_act (by omega) he, a4]
      have hlt : ¬ nI a ≤ x3 := by
        rcases hl with ⟨_, e⟩ | ⟨b, e, hb, e2⟩
        · rw [e]
          intro z
          have h5 := nI_pos (n := a) (by omega)
          rw [Int32.le_iff_toInt_le] at z
          rw [Int32.lt_iff_toInt_lt] at h5
          have z0 : (0 : Int32).toInt = 0 := rfl
          have z1 : (-1 : Int32).toInt = -1 := rfl
          omega
        · rw [e]
          refine nI_ge (a := b) (b := a) ?_ (by omega)
          rcases Nat.lt_or_ge b a with q | q
          · exact q
          · have := fb_ct_mono (hA (acts (evI (G.2.2.1 s)) p)) q
            omega
      refine Tr.neg hlt (Tr.neg (nI_ge (a := a) (b := 125) a1 (by decide)) (ht126 a1 hp (hk' _ ⟨rfl, (MK_s hp M a1 a2 a3).2, Or.inr ⟨a, rfl, a1, by rw [a3]⟩, rfl, W6⟩)))
    · intro x kk hJ
      obtain ⟨x1, x2, x3, x4, h5⟩ := x
      obtain ⟨ea, M, hl, eb, W5⟩ := hJ
      dsimp only at ea M hl eb W5
      have em := MK_end M
      subst ea eb em
      dsimp only
      exact Tr.pos (nI_le (b := tot (acts (evI (G.2.2.1 s)) p)) (Nat.le_refl _) (by omega)) (ht230 W5 hs hp c r1 hh he)
  · rw [if_neg c] at hh
    rw [hh]
    have hz := row_none hr c he
    have nm : ¬ nI (tN (G.2.2.1 s)) ≤ (-1 : Int32) := fun z => by
      have h5 := nI_pos (n := tN (G.2.2.1 s)) (by omega)
      rw [Int32.le_iff_toInt_le] at z
      rw [Int32.lt_iff_toInt_lt] at h5
      have z0 : (0 : Int32).toInt = 0 := rfl
      have z1 : (-1 : Int32).toInt = -1 := rfl
      omega
    exact Tr.neg (by decide) (Tr.neg nm (Tr.pos rfl (Tr.neg (by decide) (Tr.pos (by rw [hz]; exact lg_same _) (Tr.ret ⟨rfl, G, W3, rfl⟩)))))
end LHT

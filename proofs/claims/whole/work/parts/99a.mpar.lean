/-! THE REFERENCE'S PARSER: its pieces -/
def ch (k : Nat) : Nat := if k = 1 then 43 else if k = 2 then 46 else if k = 3 then 33 else if k = 4 then 40 else if k = 5 then 91 else if k = 6 then 63 else 124
def lo : FrS → Int32
  | [] => -1
  | f :: _ => nI (ch f.1)
theorem ch_is : ∀ k, k < 8 → 1 ≤ k → (nI (ch k) = 33 ↔ k = 3) ∧ (nI (ch k) = 46 ↔ k = 2) ∧ (nI (ch k) = 43 ↔ k = 1) ∧ (nI (ch k) = 91 ↔ k = 5) ∧ (nI (ch k) = 40 ↔ k = 4) ∧ (nI (ch k) = 63 ↔ k = 6) ∧ nI (ch k) ≠ -1 := by decide
theorem lo_is {F : FrS} (h : FOK F) : (lo F = 33 ↔ hk F = 3) ∧ (lo F = 46 ↔ hk F = 2) ∧ (lo F = 43 ↔ hk F = 1) ∧ (lo F = 91 ↔ hk F = 5) ∧ (lo F = 40 ↔ hk F = 4) ∧ (lo F = 63 ↔ hk F = 6) ∧ (lo F = -1 ↔ F = []) := by
  cases F with
  | nil => exact ⟨by decide, by decide, by decide, by decide, by decide, by decide, by decide⟩
  | cons f F =>
    obtain ⟨a, b, c, d, e, g, i⟩ := ch_is f.1 (by have := h.2.2.1; omega) h.2.1
    exact ⟨a, b, c, d, e, g, fun z => absurd z i, fun z => by cases z⟩
/-- where the operands begin that wait below what is open -/
def BgR : FrS → List Nat → Prop
  | [], B => B = []
  | f :: F, B => if f.1 ≤ 2 then ∃ t, B = stt F :: t ∧ BgR F t else if f.1 ≤ 5 then BgR F B else if f.1 = 6 then ∃ b t, B = b :: t ∧ BgR F t else ∃ b c t, B = b :: c :: t ∧ BgR F t
theorem BgR.len : ∀ {F : FrS} {B : List Nat}, BgR F B → B.length = cnt F := by
  intro F
  induction F with
  | nil => intro B h; rw [show B = [] from h]; rfl
  | cons f F ih =>
    intro B h
    unfold BgR at h
    unfold cnt
    by_cases c1 : f.1 ≤ 2
    · rw [if_pos c1] at h ⊢
      obtain ⟨t, e, ht⟩ := h
      rw [e, List.length_cons, ih ht]; omega
    rw [if_neg c1] at h ⊢
    by_cases c2 : f.1 ≤ 5
    · rw [if_pos c2] at h ⊢
      rw [ih h]; omega
    rw [if_neg c2] at h ⊢
    by_cases c3 : f.1 = 6
    · rw [if_pos c3] at h ⊢
      obtain ⟨b, t, e, ht⟩ := h
      rw [e, List.length_cons, ih ht]; omega
    rw [if_neg c3] at h ⊢
    obtain ⟨b, c, t, e, ht⟩ := h
    rw [e, List.length_cons, List.length_cons, ih ht]; omega
def MpS (h : Hp) (l : List Nat) (F : FrS) (B : List Bool) (Bg : List Nat) : Prop := MkR h l ∧ PSt h B ∧ Stk (fun b : Nat => nI b) (gI h 129) Bg ∧ gI h 123 14 = nI F.length ∧ Stk (fun f : Nat × Nat × Nat => nI (ch f.1)) (gI h 131) F ∧ Stk (fun f : Nat × Nat × Nat => nI f.2.2) (gI h 132) F
def mpA : Nat → Prop := fun a => a = 123 ∨ (128 ≤ a ∧ a ≤ 132)
def MpI (h0 : Hp) (G : St) (l : List Nat) (F : FrS) (B : List Bool) (Bg : List Nat) (i : Nat) (h : Hp) : Prop := MI h G ∧ Fr mA h0 h ∧ MpS h l F B Bg ∧ gI h 123 11 = nI i ∧ ∀ t, t < 4 → gI h 133 t = bi (prd (G.2.2.1 t))
theorem MpI.go {h0 h h1 : Hp} {G : St} {l l2 : List Nat} {F F2 : FrS} {B B2 : List Bool} {g g2 : List Nat} {i j : Nat} (I : MpI h0 G l F B g i h) (Fx : Fr mpA h h1) (e2 : gI h1 123 2 = gI h 123 2) (e5 : gI h1 123 5 = gI h 123 5) (S : MpS h1 l2 F2 B2 g2) (ea : gI h1 123 11 = nI j) : MpI h0 G l2 F2 B2 g2 j h1 :=
  ⟨I.1.wk (Fx.wk (fun a x => by unfold mpA at x; unfold mW; omega)) e2 e5, I.2.1.tr (Fx.wk (fun a x => by unfold mpA at x; unfold mA; omega)), S, ea, fun t ht => by rw [Fx.I (show ¬ mpA 133 by unfold mpA; omega)]; exact I.2.2.2.2 t ht⟩
theorem X10_wi (x lo hi : Int32) (h : Hp) : f_X10_within x lo hi h = some (if x < lo then 0 else if hi < x then 0 else 1, h) := by
  apply Tr.of_eq
  refine Tr.cs (fun c => Tr.ret ⟨by rw [if_pos c], rfl⟩) (fun c => Tr.cs (fun c2 => Tr.ret ⟨by rw [if_neg c, if_pos c2], rfl⟩) (fun c2 => Tr.ret ⟨by rw [if_neg c, if_neg c2], rfl⟩))
/-- the byte at a place -/
def tb (G : St) (k : Nat) : Int32 := if k < G.1 then nI (G.2.1 k) else -1
section REF
variable {h h0 : Hp} {G : St} {l : List Nat} {F : FrS} {B : List Bool} {g : List Nat} {i : Nat}
theorem X10_byteAt (M : MI h G) {k : Nat} (hk : k < 2 ^ 31) : f_X10_byteAt 123 (nI k) h = some (tb G k, h) := by
  obtain ⟨m1, m2, m3, m4, m5, m6, m7, m8, m9⟩ := M
  apply Tr.of_eq
  refine Tr.ck (Lo_123 m1) ?_
  rw [m3]
  unfold tb
  by_cases c : k < G.1
  · rw [if_pos c]
    refine Tr.neg (nI_ge c (by omega)) (Tr.gp (Lp_123_4 m1) (Tr.ca (La_127 m1 (by omega)) (Tr.ret ⟨?_, rfl⟩)))
    rw [nI_clamp (by omega)]
    exact (m5 k c).1
  · rw [if_neg c]
    exact Tr.pos (nI_le (by omega) (by omega)) (Tr.ret ⟨rfl, rfl⟩)
theorem X10_lastOpen (L : Lay h) (S : MpS h l F B g) (hF : F.length ≤ 160) : f_X10_lastOpen 123 h = some (lo F, h) := by
  obtain ⟨s1, s2, s3, s4, s5, s6⟩ := S
  apply Tr.of_eq
  refine Tr.ck (Lo_123 L) ?_
  rw [s4]
  cases F with
  | nil => exact Tr.pos rfl (Tr.ret ⟨rfl, rfl⟩)
  | cons f F =>
    rw [List.length_cons] at hF ⊢
    refine Tr.neg (nI_ne (b := 0) (by omega) (by decide) (by omega)) (Tr.gp (Lp_123_12 L) ?_)
    rw [nI_pred]
    refine Tr.ca (La_131 L (by omega)) ?_
    rw [nI_clamp (by omega), s5.1]
    exact Tr.ret ⟨rfl, rfl⟩
/-- the stage stands -/
def stg (h h1 : Hp) : Prop := gI h1 123 16 = gI h 123 16
theorem X10_mk (I : MpI h0 G l F B g i h) (hl : l.length < 6000) (c : Nat) : Tr (f_X10_makes 123 (nI (sg c)) h) (fun _ h1 => MpI h0 G (l ++ [c]) F B g i h1 ∧ stg h h1) := by
  obtain ⟨s1, s2, s3, s4, s5, s6⟩ := id I.2.2.1
  refine Tr.imp (X10_makes I.1.1 s1 hl c) (fun _ h1 q => ?_)
  obtain ⟨K, Fx, e⟩ := q
  have nn : ∀ a, 129 ≤ a → gI h1 a = gI h a := fun a ha => Fx.I (fun z => by unfold kW at z; omega)
  refine ⟨I.go (Fx.wk (fun a x => by unfold kW at x; unfold mpA; omega)) (e 2 (by decide)) (e 5 (by decide)) ⟨K, ?_, ?_, ?_, ?_, ?_⟩ (by rw [e 11 (by decide)]; exact I.2.2.2.1), e 16 (by decide)⟩
  · unfold PSt; rw [e 10 (by decide), nn 130 (by decide)]; exact s2
  · rw [nn 129 (by decide)]; exact s3
  · rw [e 14 (by decide)]; exact s4
  · rw [nn 131 (by decide)]; exact s5
  · rw [nn 132 (by decide)]; exact s6
theorem X10_cp (I : MpI h0 G l F B g i h) (hl : l.length < 5000) {s : Nat} (hs : s < 4) : Tr (f_X10_copies 123 (nI s) h) (fun _ h1 => MpI h0 G (l ++ G.2.2.1 s) F B g i h1 ∧ stg h h1) := by
  obtain ⟨s1, s2, s3, s4, s5, s6⟩ := id I.2.2.1
  refine Tr.imp (X10_copies I.1 hs s1 hl) (fun _ h1 q => ?_)
  obtain ⟨K, Fx, e⟩ := q
  have nn : ∀ a, 129 ≤ a → gI h1 a = gI h a := fun a ha => Fx.I (fun z => by unfold kW at z; omega)
  refine ⟨I.go (Fx.wk (fun a x => by unfold kW at x; unfold mpA; omega)) (e 2 (by decide)) (e 5 (by decide)) ⟨K, ?_, ?_, ?_, ?_, ?_⟩ (by rw [e 11 (by decide)]; exact I.2.2.2.1), e 16 (by decide)⟩
  · unfold PSt; rw [e 10 (by decide), nn 130 (by decide)]; exact s2
  · rw [nn 129 (by decide)]; exact s3
  · rw [e 14 (by decide)]; exact s4
  · rw [nn 131 (by decide)]; exact s5
  · rw [nn 132 (by decide)]; exact s6
theorem X10_wt (I : MpI h0 G l F B g i h) (hB : B.length < 160) (hg : g.length = B.length) (b : Bool) (k : Nat) : Tr (f_X10_waits 123 (nI k) (bi b) h) (fun _ h1 => MpI h0 G l F (b :: B) (k :: g) i h1 ∧ stg h h1) := by
  obtain ⟨s1, s2, s3, s4, s5, s6⟩ := id I.2.2.1
  refine Tr.imp (X10_waits I.1.1 s2 hB) (fun _ h1 q => ?_)
  obtain ⟨J, e129, Fx, e⟩ := q
  have nn : ∀ a, a ≠ 123 → a ≠ 129 → a ≠ 130 → gI h1 a = gI h a := fun a x y z => Fx.I (fun w => by unfold pW at w; omega)
  refine ⟨I.go (Fx.wk (fun a x => by unfold pW at x; unfold mpA; omega)) (e 2 (by decide)) (e 5 (by decide)) ⟨?_, J, ?_, ?_, ?_, ?_⟩ (by rw [e 11 (by decide)]; exact I.2.2.2.1), e 16 (by decide)⟩
  · unfold MkR; rw [e 7 (by decide), nn 128 (by decide) (by decide) (by decide)]; exact s1
  · rw [e129, ← hg]; exact s3.push k
  · rw [e 14 (by decide)]; exact s4
  · rw [nn 131 (by decide) (by decide) (by decide)]; exact s5
  · rw [nn 132 (by decide) (by decide) (by decide)]; exact s6
/-- a field of 123 beside those that the picture names -/
theorem MpI.at (I : MpI h0 G l F B g i h) (j : Nat) : MpI h0 G l F B g j (sI h 123 11 (nI j)) ∧ stg h (sI h 123 11 (nI j)) := by
  obtain ⟨s1, s2, s3, s4, s5, s6⟩ := id I.2.2.1
  have e : ∀ k, k ≠ 11 → gI (sI h 123 11 (nI j)) 123 k = gI h 123 k := fun k hk => by rw [gI_sI, upd_ne hk]
  have nn : ∀ a, a ≠ 123 → gI (sI h 123 11 (nI j)) a = gI h a := fun a ha => gI_sI_ne ha
  refine ⟨I.go (Fr.sI (Or.inl rfl)) (e 2 (by decide)) (e 5 (by decide)) ⟨?_, ?_, ?_, ?_, ?_, ?_⟩ (by rw [gI_sI, upd_eq]), e 16 (by decide)⟩
  · unfold MkR; rw [e 7 (by decide), nn 128 (by decide)]; exact s1
  · unfold PSt; rw [e 10 (by decide), nn 130 (by decide)]; exact s2
  · rw [nn 129 (by decide)]; exact s3
  · rw [e 14 (by decide)]; exact s4
  · rw [nn 131 (by decide)]; exact s5
  · rw [nn 132 (by decide)]; exact s6
theorem MpI.stage (I : MpI h0 G l F B g i h) (x : Int32) : MpI h0 G l F B g i (sI h 123 16 x) := by
  obtain ⟨s1, s2, s3, s4, s5, s6⟩ := id I.2.2.1
  have e : ∀ k, k ≠ 16 → gI (sI h 123 16 x) 123 k = gI h 123 k := fun k hk => by rw [gI_sI, upd_ne hk]
  have nn : ∀ a, a ≠ 123 → gI (sI h 123 16 x) a = gI h a := fun a ha => gI_sI_ne ha
  refine I.go (Fr.sI (Or.inl rfl)) (e 2 (by decide)) (e 5 (by decide)) ⟨?_, ?_, ?_, ?_, ?_, ?_⟩ (by rw [e 11 (by decide)]; exact I.2.2.2.1)
  · unfold MkR; rw [e 7 (by decide), nn 128 (by decide)]; exact s1
  · unfold PSt; rw [e 10 (by decide), nn 130 (by decide)]; exact s2
  · rw [nn 129 (by decide)]; exact s3
  · rw [e 14 (by decide)]; exact s4
  · rw [nn 131 (by decide)]; exact s5
  · rw [nn 132 (by decide)]; exact s6
theorem X10_pu (I : MpI h0 G l F B g i h) (hF : F.length < 160) (k p : Nat) : Tr (f_X10_pushes 123 (nI (ch k)) h) (fun _ h1 => MpI h0 G l ((k, p, i) :: F) B g i h1 ∧ stg h h1) := by
  obtain ⟨s1, s2, s3, s4, s5, s6⟩ := id I.2.2.1
  have L := I.1.1
  refine Tr.ck (Lo_123 L) (Tr.gp (Lp_123_12 L) ?_)
  rw [s4]
  refine Tr.ca (La_131 L hF) ?_
  rw [nI_clamp (by omega)]
  have L2 : Lay (sI h 131 F.length (nI (ch k))) := L
  refine Tr.gp (Lp_123_13 L2) ?_
  rw [gI_sI_ne (by decide), s4]
  refine Tr.ca (La_132 L2 hF) (Tr.nm (fun h3 e3 => ?_))
  rw [nI_clamp (by omega), I.2.2.2.1] at e3
  have g123 : gI h3 123 = gI h 123 := by rw [e3, gI_sI_ne (by decide), gI_sI_ne (by decide)]
  rw [g123, s4, nI_1]
  have e : ∀ j, j ≠ 14 → gI (sI h3 123 14 (nI (F.length + 1))) 123 j = gI h 123 j := fun j hj => by rw [gI_sI, upd_ne hj, g123]
  have nn : ∀ a, a ≠ 123 → a ≠ 131 → a ≠ 132 → gI (sI h3 123 14 (nI (F.length + 1))) a = gI h a := fun a x y z => by rw [gI_sI_ne x, e3, gI_sI_ne z, gI_sI_ne y]
  have Fx : Fr mpA h (sI h3 123 14 (nI (F.length + 1))) := by
    have F3 : Fr mpA h h3 := by rw [e3]; exact (Fr.sI (show mpA 131 from Or.inr ⟨by decide, by decide⟩)).tr (Fr.sI (Or.inr ⟨by decide, by decide⟩))
    exact F3.tr (Fr.sI (Or.inl rfl))
  refine Tr.ret ⟨I.go Fx (e 2 (by decide)) (e 5 (by decide)) ⟨?_, ?_, ?_, ?_, ?_, ?_⟩ (by rw [e 11 (by decide)]; exact I.2.2.2.1), e 16 (by decide)⟩
  · unfold MkR; rw [e 7 (by decide), nn 128 (by decide) (by decide) (by decide)]; exact s1
  · unfold PSt; rw [e 10 (by decide), nn 130 (by decide) (by decide) (by decide)]; exact s2
  · rw [nn 129 (by decide) (by decide) (by decide)]; exact s3
  · rw [gI_sI, upd_eq, List.length_cons]
  · rw [gI_sI_ne (by decide), e3, gI_sI_ne (by decide), gI_sI]; exact s5.push (k, p, i)
  · rw [gI_sI_ne (by decide), e3, gI_sI, gI_sI_ne (by decide)]; exact s6.push (k, p, i)
/-- two operands become one -/
theorem X10_jT {f : Nat × Nat × Nat} {a0 a1 : Bool} {t : List Bool} {b0 b1 : Nat} (I : MpI h0 G l (f :: F) (a0 :: a1 :: t) (b0 :: b1 :: g) i h) (hl : l.length < 6000) (ht : t.length < 150) (c : Nat) : Tr (f_X10_joinsTwo 123 (nI (sg c)) h) (fun _ h1 => MpI h0 G (l ++ [c]) F ((a1 && a0) :: t) (b1 :: g) i h1 ∧ stg h h1) := by
  obtain ⟨s1, ⟨s2, s2'⟩, s3, s4, s5, s6⟩ := id I.2.2.1
  have L := I.1.1
  rw [List.length_cons] at s4
  rw [List.length_cons, List.length_cons] at s2
  refine Tr.ck (Lo_123 L) ?_
  rw [s4, nI_pred, gI_sI, upd_ne (by decide), s2, nI_pred]
  refine Tr.nm (fun h2 e2 => ?_)
  have g10 : gI h2 123 10 = nI (t.length + 1) := by rw [e2, gI_sI, upd_eq]
  have g130 : gI h2 130 = gI h 130 := by rw [e2, gI_sI_ne (by decide), gI_sI_ne (by decide)]
  have L2 : Lay h2 := by rw [e2]; exact L
  refine Tr.gp (Lp_123_9 L2) ?_
  rw [g10, nI_pred]
  refine Tr.nmx (Tr.ca (La_130 L2 (by omega)) (Tr.gp (Lp_123_9 L2) (Tr.ca (La_130 L2 (by omega)) (Tr.ca (La_130 L2 (by omega)) ?_))))
  rw [nI_clamp (by omega), nI_clamp (by omega), g130]
  have q0 : gI h 130 (t.length + 1) = bi a0 := s2'.1
  have q1 : gI h 130 t.length = bi a1 := s2'.2.1
  rw [q0, q1, bi_and]
  have I2 : MpI h0 G l F ((a1 && a0) :: t) (b1 :: g) i (sI h2 130 t.length (bi (a1 && a0))) := by
    have e : ∀ j, j ≠ 14 → j ≠ 10 → gI (sI h2 130 t.length (bi (a1 && a0))) 123 j = gI h 123 j := fun j x y => by rw [gI_sI_ne (by decide), e2, gI_sI, upd_ne y, gI_sI, upd_ne x]
    have nn : ∀ a, a ≠ 123 → a ≠ 130 → gI (sI h2 130 t.length (bi (a1 && a0))) a = gI h a := fun a x y => by rw [gI_sI_ne y, e2, gI_sI_ne x, gI_sI_ne x]
    have Fx : Fr mpA h (sI h2 130 t.length (bi (a1 && a0))) := by
      have F3 : Fr mpA h h2 := by rw [e2]; exact (Fr.sI (show mpA 123 from Or.inl rfl)).tr (Fr.sI (Or.inl rfl))
      exact F3.tr (Fr.sI (Or.inr ⟨by decide, by decide⟩))
    refine I.go Fx (e 2 (by decide) (by decide)) (e 5 (by decide) (by decide)) ⟨?_, ⟨?_, ?_⟩, ?_, ?_, ?_, ?_⟩ (by rw [e 11 (by decide) (by decide)]; exact I.2.2.2.1)
    · unfold MkR; rw [e 7 (by decide) (by decide), nn 128 (by decide) (by decide)]; exact s1
    · rw [gI_sI_ne (by decide), g10, List.length_cons]
    · rw [gI_sI, g130]; exact s2'.2.2.push (a1 && a0)
    · rw [nn 129 (by decide) (by decide)]; exact s3.2
    · rw [gI_sI_ne (by decide), e2, gI_sI, upd_ne (by decide), gI_sI, upd_eq]
    · rw [nn 131 (by decide) (by decide)]; exact s5.2
    · rw [nn 132 (by decide) (by decide)]; exact s6.2
  have st2 : stg h (sI h2 130 t.length (bi (a1 && a0))) := by
    show gI (sI h2 130 t.length (bi (a1 && a0))) 123 16 = _
    rw [gI_sI_ne (by decide), e2, gI_sI, upd_ne (by decide), gI_sI, upd_ne (by decide)]
  refine Tr.bd (X10_mk I2 hl c) (fun _ h4 q => Tr.ret ⟨q.1, q.2.trans st2⟩)
end REF

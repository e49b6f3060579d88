/-! THE REFERENCE'S PARSER: what ends -/
/-- an operand has just been read -/
def BS (h0 : Hp) (G : St) (i : Nat) (s : PSy) (h : Hp) : Prop := ∃ Bg, BgR s.2 Bg ∧ MpI h0 G s.1 s.2 (sB s.1) (stt s.2 :: Bg) i h
/-- what remains to be read -/
def Pq (G : St) (i : Nat) (q : PQy) : Nat ⊕ List Nat := prn G.2.2.1 G.2.1 G.1 (G.1 - i) q
theorem Pq_s {G : St} {i : Nat} (hi : i < G.1) (q : PQy) : Pq G i q = match pst G.2.2.1 i (G.2.1 i) q with
    | Sum.inl e => Sum.inl e
    | Sum.inr q2 => Pq G (i + 1) q2 := by
  unfold Pq
  obtain ⟨k, hk⟩ : ∃ k, G.1 - i = k + 1 := ⟨G.1 - i - 1, by omega⟩
  have hk2 : G.1 - (i + 1) = k := by omega
  rw [hk, hk2]
  have hk3 : G.1 - (k + 1) = i := by omega
  show (match pst G.2.2.1 (G.1 - (k + 1)) (G.2.1 (G.1 - (k + 1))) q with
    | Sum.inl e => Sum.inl e
    | Sum.inr q2 => prn G.2.2.1 G.2.1 G.1 k q2) = _
  rw [hk3]
theorem Pq_n {G : St} (q : PQy) : Pq G G.1 q = pfn G.1 q := by
  unfold Pq
  rw [Nat.sub_self]
  rfl
section REF
variable {h h0 : Hp} {G : St} {l : List Nat} {F : FrS} {B : List Bool} {g : List Nat} {i : Nat}
theorem BS_pair {f : Nat × Nat × Nat} {N n c : Nat} {x : Int32} (V : CV N n (l, f :: F)) (hn : n ≤ 150) (hN : N < 6000) (hf : f.1 ≤ 2) (hx : x = nI (sg c)) (ha : ar c = 2) (ho : ∀ a0 a1 a2, opB c a0 a1 a2 = (a1 && a0)) (I : BS h0 G i (l, f :: F) h) : Tr (f_X10_joinsTwo 123 x h) (fun _ h1 => BS h0 G i (l ++ [c], F) h1 ∧ stg h h1) := by
  subst hx
  obtain ⟨Bg, b1, I⟩ := I
  obtain ⟨v1, v2, v3, v4, v5⟩ := V
  dsimp only at v1 v2 v3 v4 v5 b1 I
  have ecn : cnt (f :: F) = 1 + cnt F := by show (if f.1 ≤ 2 then 1 else if f.1 ≤ 5 then 0 else if f.1 = 6 then 1 else 2) + cnt F = _; rw [if_pos hf]
  have hlen := sB_len v1
  rw [ecn] at hlen v4
  obtain ⟨a0, a1, t, es⟩ := st_two (st := sB l) (by omega)
  have esn : sB (l ++ [c]) = (a1 && a0) :: t := by rw [sB_snoc, es, ha, ho]; rfl
  unfold BgR at b1
  rw [if_pos hf] at b1
  obtain ⟨u, eu, hu⟩ := b1
  rw [es, eu] at I
  rw [es, List.length_cons, List.length_cons] at hlen
  refine Tr.imp (X10_jT I (by omega) (by omega) c) (fun _ h1 q => ⟨⟨u, hu, ?_⟩, q.2⟩)
  dsimp only
  rw [esn]
  exact q.1
/-- one turn of joining -/
theorem X10_jstep {N n : Nat} {l1 : Int32} {k0 : Hp → Option (Unit × Hp)} {Q : Unit → Hp → Prop} (V : CV N n (l, F)) (hn : n ≤ 150) (hN : N < 6000) (I : BS h0 G i (l, F) h)
    (hs : ∀ f F', F = f :: F' → f.1 = 2 → ∀ h1, BS h0 G i (l ++ [80], F') h1 → stg h h1 → Tr (k0 h1) Q) (hu : l1 ≠ 0 → ∀ f F', F = f :: F' → f.1 = 1 → ∀ h1, BS h0 G i (l ++ [64], F') h1 → stg h h1 → Tr (k0 h1) Q) (he : hk F ≠ 2 → (l1 ≠ 0 → hk F ≠ 1) → Q () h) : Tr (f_X10_joins_0 k0 123 l1 h) Q := by
  obtain ⟨Bg, b1, I1⟩ := id I
  dsimp only at b1 I1
  have L := I1.1.1
  have hFl := V.2.2.1
  dsimp only at hFl
  have lop := X10_lastOpen L I1.2.2.1 (by omega)
  obtain ⟨_, k46, k43, _⟩ := lo_is V.2.1
  refine Tr.ck (Lo_123 L) (Tr.be lop ?_)
  by_cases c1 : hk F = 2
  · have e46 := k46.mpr c1
    refine Tr.pos e46 (Tr.ck (Lo_123 L) (Tr.be lop (Tr.pos e46 (Tr.ck (Lo_123 L) ?_))))
    cases F with
    | nil => exact absurd c1 (by decide : ¬ (0 : Nat) = 2)
    | cons f F' =>
      have c1 : f.1 = 2 := c1
      exact Tr.bd (BS_pair (c := 80) V hn hN (by omega) rfl rfl (fun _ _ _ => rfl) I) (fun _ h1 q => hs f F' rfl c1 h1 q.1 q.2)
  · have n46 : ¬ lo F = 46 := fun z => c1 (k46.mp z)
    refine Tr.neg n46 ?_
    by_cases c2 : l1 = 0
    · exact Tr.pos c2 (Tr.ret (he c1 (fun z => absurd c2 z)))
    · refine Tr.neg c2 (Tr.ck (Lo_123 L) (Tr.be lop ?_))
      by_cases c3 : hk F = 1
      · refine Tr.pos (k43.mpr c3) (Tr.ck (Lo_123 L) (Tr.be lop (Tr.neg n46 (Tr.ck (Lo_123 L) ?_))))
        cases F with
        | nil => exact absurd c3 (by decide : ¬ (0 : Nat) = 1)
        | cons f F' =>
          have c3 : f.1 = 1 := c3
          exact Tr.bd (BS_pair (c := 64) V hn hN (by omega) rfl rfl (fun _ _ _ => rfl) I) (fun _ h1 q => hu c2 f F' rfl c3 h1 q.1 q.2)
      · exact Tr.neg (fun z => c3 (k43.mp z)) (Tr.ret (he c1 (fun _ => c3)))
theorem X10_joins0 {N n : Nat} (V : CV N n (l, F)) (hn : n ≤ 150) (hN : N < 6000) (h3 : hk F ≠ 3) (I : BS h0 G i (l, F) h) : Tr (f_X10_joins 123 0 h) (fun _ h1 => BS h0 G i (cPair 2 80 (l, F)) h1 ∧ stg h h1) := by
  have V1 := V.pair (k := 2) (c := 80) (Or.inr rfl) rfl rfl
  have k1 := hk_seq V h3
  refine Tr.unr (X10_jstep V hn hN I (fun f F' e c h1 I1 st => ?_) (fun z => absurd rfl z) (fun c _ => ?_))
  · subst e
    have ep : cPair 2 80 (l, f :: F') = (l ++ [80], F') := if_pos c
    rw [ep] at V1 k1 ⊢
    exact Tr.unr (X10_jstep V1 hn hN I1 (fun f2 F2 e2 c2 => absurd (show hk F' = 2 by rw [e2]; exact c2) k1.1) (fun z => absurd rfl z) (fun _ _ => ⟨I1, st⟩))
  · rw [cPair_no (s := (l, F)) c]
    exact ⟨I, rfl⟩
theorem X10_joins1 {N n : Nat} (V : CV N n (l, F)) (hn : n ≤ 150) (hN : N < 6000) (h3 : hk F ≠ 3) (I : BS h0 G i (l, F) h) : Tr (f_X10_joins 123 1 h) (fun _ h1 => BS h0 G i (cPair 1 64 (cPair 2 80 (l, F))) h1 ∧ stg h h1) := by
  have V1 := V.pair (k := 2) (c := 80) (Or.inr rfl) rfl rfl
  have k1 := hk_seq V h3
  have last : ∀ (l2 : List Nat) (F2 : FrS) (m : Nat) (h2 : Hp), CV N n (l2, F2) → hk F2 ≠ 2 → hk F2 ≠ 3 → BS h0 G i (l2, F2) h2 → stg h h2 → Tr (loopN (fun k s => f_X10_joins_0 k 123 1 s) (m + 1 + 1) h2) (fun _ h1 => BS h0 G i (cPair 1 64 (l2, F2)) h1 ∧ stg h h1) := by
    intro l2 F2 m h2 V2 n2 n3 I2 st
    have V3 := V2.pair (k := 1) (c := 64) (Or.inl rfl) rfl rfl
    have k3 := hk_uni V2 n2 n3
    refine Tr.unr (X10_jstep V2 hn hN I2 (fun f F' e c => absurd (show hk F2 = 2 by rw [e]; exact c) n2) (fun _ f F' e c h3 I3 st3 => ?_) (fun _ c => ?_))
    · subst e
      have ep : cPair 1 64 (l2, f :: F') = (l2 ++ [64], F') := if_pos c
      rw [ep] at V3 k3 ⊢
      exact Tr.unr (X10_jstep V3 hn hN I3 (fun f4 F4 e4 c4 => absurd (show hk F' = 2 by rw [e4]; exact c4) k3.2.1) (fun _ f4 F4 e4 c4 => absurd (show hk F' = 1 by rw [e4]; exact c4) k3.1) (fun _ _ => ⟨I3, st3.trans st⟩))
    · rw [cPair_no (s := (l2, F2)) (c (by decide))]
      exact ⟨I2, st⟩
  by_cases c : hk F = 2
  · refine Tr.unr (X10_jstep V hn hN I (fun f F' e c h1 I1 st => ?_) (fun _ f F' e c2 => absurd c (by rw [e]; show ¬ f.1 = 2; omega)) (fun c2 _ => absurd c c2))
    subst e
    have ep : cPair 2 80 (l, f :: F') = (l ++ [80], F') := if_pos c
    rw [ep] at V1 k1 ⊢
    exact last _ _ 4997 h1 V1 k1.1 k1.2 I1 st
  · rw [cPair_no (s := (l, F)) c]
    exact last l F 4998 h V c h3 I rfl
/-- what is open ends; the operand begins where that began -/
theorem MpI.shut {f : Nat × Nat × Nat} (I : MpI h0 G l (f :: F) B g i h) : MpI h0 G l F B g i (sI h 123 14 (gI h 123 14 - 1)) ∧ gI (sI h 123 14 (gI h 123 14 - 1)) 132 F.length = nI f.2.2 ∧ stg h (sI h 123 14 (gI h 123 14 - 1)) := by
  obtain ⟨s1, s2, s3, s4, s5, s6⟩ := id I.2.2.1
  rw [List.length_cons] at s4
  rw [s4, nI_pred]
  have e : ∀ k, k ≠ 14 → gI (sI h 123 14 (nI F.length)) 123 k = gI h 123 k := fun k hk => by rw [gI_sI, upd_ne hk]
  have nn : ∀ a, a ≠ 123 → gI (sI h 123 14 (nI F.length)) a = gI h a := fun a ha => gI_sI_ne ha
  refine ⟨I.go (Fr.sI (Or.inl rfl)) (e 2 (by decide)) (e 5 (by decide)) ⟨?_, ?_, ?_, ?_, ?_, ?_⟩ (by rw [e 11 (by decide)]; exact I.2.2.2.1), by rw [nn 132 (by decide)]; exact s6.1, e 16 (by decide)⟩
  · unfold MkR; rw [e 7 (by decide), nn 128 (by decide)]; exact s1
  · unfold PSt; rw [e 10 (by decide), nn 130 (by decide)]; exact s2
  · rw [nn 129 (by decide)]; exact s3
  · rw [gI_sI, upd_eq]
  · rw [nn 131 (by decide)]; exact s5.2
  · rw [nn 132 (by decide)]; exact s6.2
theorem X10_setB {a0 : Bool} {t : List Bool} {b0 r : Nat} {K : Hp → Option (Int32 × Hp)} {Q : Int32 → Hp → Prop} (I : MpI h0 G l F (a0 :: t) (b0 :: g) i h) (hg : g.length = t.length) (ht : t.length < 150) (hF : F.length < 150) (e : gI h 132 F.length = nI r) (kk : ∀ h1, MpI h0 G l F (a0 :: t) (r :: g) i h1 → stg h h1 → Tr (K h1) Q) :
    Tr ((gP h 123 8).bind fun v => (gP h 123 13).bind fun w => ca h w 20 (gI h 123 14) (ca h v 20 (gI h 123 10 - 1) (nm (sI h v (gI h 123 10 - 1).toNatClampNeg (gI h w (gI h 123 14).toNatClampNeg)) K))) Q := by
  obtain ⟨s1, ⟨s2, s2'⟩, s3, s4, s5, s6⟩ := id I.2.2.1
  have L := I.1.1
  rw [List.length_cons] at s2
  refine Tr.gp (Lp_123_8 L) (Tr.gp (Lp_123_13 L) ?_)
  rw [s4, s2, nI_pred]
  refine Tr.ca (La_132 L (by omega)) (Tr.ca (La_129 L (by omega)) (Tr.nmx (kk _ ?_ ?_)))
  · rw [nI_clamp (by omega), nI_clamp (by omega), e]
    have nn : ∀ a, a ≠ 129 → gI (sI h 129 t.length (nI r)) a = gI h a := fun a ha => gI_sI_ne ha
    refine I.go (Fr.sI (Or.inr ⟨by decide, by decide⟩)) (by rw [nn 123 (by decide)]) (by rw [nn 123 (by decide)]) ⟨?_, ?_, ?_, ?_, ?_, ?_⟩ (by rw [nn 123 (by decide)]; exact I.2.2.2.1)
    · unfold MkR; rw [nn 123 (by decide), nn 128 (by decide)]; exact s1
    · unfold PSt; rw [nn 123 (by decide), nn 130 (by decide), List.length_cons]; exact ⟨s2, s2'⟩
    · rw [gI_sI, ← hg]; exact s3.2.push r
    · rw [nn 123 (by decide)]; exact s4
    · rw [nn 131 (by decide)]; exact s5
    · rw [nn 132 (by decide)]; exact s6
  · show gI (sI h 129 _ _) 123 16 = _
    rw [gI_sI_ne (by decide)]
/-- the negations end -/
theorem X10_ef44 {N n : Nat} (V : CV N n (l, F)) (hn : n ≤ 150) (hN : N < 6000) (I : BS h0 G i (l, F) h) : Tr (loopN (fun k s => f_X10_endsFactor_44 k 123 s) 5000 h) (fun r h1 => (∃ e, cNot l F = Sum.inl e ∧ r = nI e ∧ e < 2 ^ 31 ∧ MI h1 G ∧ Fr mA h0 h1) ∨ ∃ s, cNot l F = Sum.inr s ∧ r = -1 ∧ BS h0 G i s h1 ∧ stg h h1) := by
  generalize hR : cNot l F = R
  refine Tr.loop (I := fun m (h1 : Hp) => ∃ l F, m = F.length ∧ CV N n (l, F) ∧ BS h0 G i (l, F) h1 ∧ stg h h1 ∧ cNot l F = R) ?_ 5000 F.length h ⟨l, F, rfl, V, I, rfl, hR⟩ (by have := V.2.2.1; dsimp only at this; omega)
  intro m h1 k hI hk'
  obtain ⟨l, F, em, V, I, st, eR⟩ := hI
  subst em
  obtain ⟨v1, v2, v3, v4, v5⟩ := id V
  dsimp only at v1 v2 v3 v4 v5
  obtain ⟨Bg, b1, I1⟩ := id I
  dsimp only at b1 I1
  have L := I1.1.1
  have lop := X10_lastOpen L I1.2.2.1 (by omega)
  obtain ⟨k33, _⟩ := lo_is v2
  refine Tr.ck (Lo_123 L) (Tr.be lop ?_)
  cases F with
  | nil =>
    refine Tr.neg (fun z => absurd (k33.mp z) (by decide : ¬ (0 : Nat) = 3)) (Tr.ret (Or.inr ⟨(l, []), eR.symm, rfl, I, st⟩))
  | cons f F =>
    have eN : cNot l (f :: F) = if f.1 = 3 then (if topP l then cNot (l ++ [112]) F else Sum.inl (f.2.1 + 1)) else Sum.inr (l, f :: F) := rfl
    rw [eN] at eR
    by_cases c : f.1 = 3
    · rw [if_pos c] at eR
      have hBl := sB_len v1
      obtain ⟨a0, t, es⟩ := st_one (st := sB l) (by omega)
      have hbg := b1.len
      rw [es, List.length_cons] at hBl
      have etp : topP l = a0 := by unfold topP; rw [es]; rfl
      rw [es] at I1
      obtain ⟨s1, ⟨s2, s2'⟩, s3, s4, s5, s6⟩ := id I1.2.2.1
      rw [List.length_cons] at s2
      refine Tr.pos (k33.mpr c) (Tr.ck (Lo_123 L) (Tr.gp (Lp_123_9 L) ?_))
      rw [s2, nI_pred]
      refine Tr.ca (La_130 L (by omega)) ?_
      rw [nI_clamp (by omega), s2'.1]
      cases a0 with
      | false =>
        rw [etp, if_neg (by decide)] at eR
        refine Tr.pos rfl (Tr.gp (Lp_123_8 L) (Tr.ca (La_129 L (by omega)) (Tr.ret (Or.inl ⟨f.2.1 + 1, eR.symm, ?_, ?_, I1.1, I1.2.1⟩))))
        · have e3 := s3.1
          have hlb : Bg.length = t.length := by omega
          rw [← hlb]
          exact e3
        · have := v2.2.2.2.2.2.2; omega
      | true =>
        rw [etp, if_pos rfl] at eR
        have es2 : sB (l ++ [112]) = true :: t := by rw [sB_snoc, es]; rfl
        refine Tr.neg (by decide) (Tr.bd (X10_mk I1 (by omega) 112) (fun _ h2 q => ?_))
        obtain ⟨I2, st2⟩ := q
        obtain ⟨I3, e3, st3⟩ := I2.shut
        refine Tr.ck (Lo_123 I2.1.1) ?_
        have hF := v3
        rw [List.length_cons] at hF
        refine X10_setB I3 (by omega) (by omega) (by omega) e3 (fun h4 I4 st4 => ?_)
        have er : f.2.2 = stt F := v2.2.2.2.2.2.1 (by omega)
        rw [er, ← es2] at I4
        have b2 : BgR F Bg := by
          unfold BgR at b1
          rw [if_neg (by omega), if_pos (by omega)] at b1
          exact b1
        exact hk' F.length h4 (by rw [List.length_cons]; omega) ⟨l ++ [112], F, rfl, V.no c, ⟨Bg, b2, I4⟩, ((st4.trans st3).trans st2).trans st, eR⟩
    · rw [if_neg c] at eR
      exact Tr.neg (fun z => c (k33.mp z)) (Tr.ret (Or.inr ⟨_, eR.symm, rfl, I, st⟩))
/-- the stars, then the negations -/
theorem X10_endsFactor (hnG : G.1 ≤ 150) (V : CV (31 * i + 30) i (l, F)) (hi : i ≤ G.1) (I : BS h0 G i (l, F) h) : Tr (f_X10_endsFactor 123 h) (fun r h1 => (∃ e, Pq G i ((l, F), 3, 0, 0) = Sum.inl e ∧ r = nI e ∧ e < 2 ^ 31 ∧ MI h1 G ∧ Fr mA h0 h1) ∨ ∃ j s, i ≤ j ∧ j ≤ G.1 ∧ CV (31 * j + 30) j s ∧ hk s.2 ≠ 3 ∧ r = -1 ∧ BS h0 G j s h1 ∧ stg h h1 ∧ Pq G i ((l, F), 3, 0, 0) = if j < G.1 then (match stC j (G.2.1 j) s with
      | Sum.inl e => Sum.inl e
      | Sum.inr q2 => Pq G (j + 1) q2) else pfC G.1 s) := by
  generalize hR : Pq G i ((l, F), 3, 0, 0) = R
  refine Tr.loop (I := fun m (h1 : Hp) => ∃ j l F, m = G.1 - j ∧ i ≤ j ∧ j ≤ G.1 ∧ CV (31 * j + 30) j (l, F) ∧ BS h0 G j (l, F) h1 ∧ stg h h1 ∧ Pq G j ((l, F), 3, 0, 0) = R) ?_ 5000 (G.1 - i) h ⟨i, l, F, rfl, Nat.le_refl _, hi, V, I, rfl, hR⟩ (by omega)
  intro m h1 k hI hk'
  obtain ⟨j, l, F, em, hij, hj, V, I, st, eR⟩ := hI
  subst em
  obtain ⟨v1, v2, v3, v4, v5⟩ := id V
  dsimp only at v1 v2 v3 v4 v5
  obtain ⟨Bg, b1, I1⟩ := id I
  dsimp only at b1 I1
  have L := I1.1.1
  have hBl := sB_len v1
  refine Tr.ck (Lo_123 L) ?_
  rw [I1.2.2.2.1]
  refine Tr.be (X10_byteAt I1.1 (k := j) (by omega)) ?_
  by_cases c : j < G.1 ∧ G.2.1 j = 42
  · have et : tb G j = 42 := by unfold tb; rw [if_pos c.1, c.2]; rfl
    obtain ⟨a0, t, es⟩ := st_one (st := sB l) (by omega)
    have es2 : sB (l ++ [96]) = false :: t := by rw [sB_snoc, es]; rfl
    rw [es, List.length_cons] at hBl
    have eP : Pq G j ((l, F), 3, 0, 0) = Pq G (j + 1) ((l ++ [96], F), 3, 0, 0) := by
      rw [Pq_s c.1, show pst G.2.2.1 j (G.2.1 j) ((l, F), 3, 0, 0) = stE j (G.2.1 j) (l, F) from rfl]
      unfold stE
      rw [if_pos c.2]
    rw [es] at I1
    refine Tr.pos et (Tr.ck (Lo_123 L) (Tr.bd (X10_mk I1 (by omega) 96) (fun _ h2 q => ?_)))
    obtain ⟨I2, st2⟩ := q
    have L2 := I2.1.1
    obtain ⟨s1, ⟨s2, s2'⟩, s3, s4, s5, s6⟩ := id I2.2.2.1
    rw [List.length_cons] at s2
    refine Tr.ck (Lo_123 L2) (Tr.gp (Lp_123_9 L2) ?_)
    rw [s2, nI_pred]
    refine Tr.ca (La_130 L2 (by omega)) ?_
    rw [nI_clamp (by omega), gI_sI_ne (by decide), I2.2.2.2.1, nI_1]
    have I3 : MpI h0 G (l ++ [96]) F (false :: t) (stt F :: Bg) j (sI h2 130 t.length 0) := by
      have nn : ∀ a, a ≠ 130 → gI (sI h2 130 t.length 0) a = gI h2 a := fun a ha => gI_sI_ne ha
      refine I2.go (Fr.sI (Or.inr ⟨by decide, by decide⟩)) (by rw [nn 123 (by decide)]) (by rw [nn 123 (by decide)]) ⟨?_, ⟨?_, ?_⟩, ?_, ?_, ?_, ?_⟩ (by rw [nn 123 (by decide)]; exact I2.2.2.2.1)
      · unfold MkR; rw [nn 123 (by decide), nn 128 (by decide)]; exact s1
      · rw [nn 123 (by decide), List.length_cons]; exact s2
      · rw [gI_sI]; exact s2'.2.push false
      · rw [nn 129 (by decide)]; exact s3
      · rw [nn 123 (by decide)]; exact s4
      · rw [nn 131 (by decide)]; exact s5
      · rw [nn 132 (by decide)]; exact s6
    obtain ⟨I4, st4⟩ := I3.at (j + 1)
    rw [← es2] at I4
    have V4 : CV (31 * (j + 1) + 30) (j + 1) (l ++ [96], F) := by
      have hp := v1.snoc (c := 96) rfl (by show 1 ≤ _; omega)
      rw [show ar 96 = 1 from rfl, Nat.add_sub_cancel] at hp
      exact ⟨hp, v2, by show F.length ≤ j + 1; omega, by show cnt F + 1 ≤ j + 1; omega, by show (l ++ [96]).length + F.length ≤ _; rw [List.length_append, List.length_singleton]; omega⟩
    have st3 : stg h2 (sI h2 130 t.length 0) := by
      show gI (sI h2 130 t.length 0) 123 16 = _
      rw [gI_sI_ne (by decide)]
    exact Tr.nmx (hk' (G.1 - (j + 1)) _ (by omega) ⟨j + 1, l ++ [96], F, rfl, by omega, by omega, V4, ⟨Bg, b1, I4⟩, ((st4.trans st3).trans st2).trans st, by rw [← eP]; exact eR⟩)
  · have et : ¬ tb G j = 42 := by
      unfold tb
      by_cases d : j < G.1
      · rw [if_pos d]
        have hb := (I1.1.2.2.2.2.1 j d).2
        exact nI_ne (b := 42) (by omega) (by decide) (fun z => c ⟨d, z⟩)
      · rw [if_neg d]; decide
    refine Tr.neg et (Tr.imp (X10_ef44 V (by omega) (by omega) I) (fun r h2 q => ?_))
    have eP : R = match cNot l F with
        | Sum.inl e => Sum.inl e
        | Sum.inr s => if j < G.1 then (match stC j (G.2.1 j) s with
          | Sum.inl e => Sum.inl e
          | Sum.inr q2 => Pq G (j + 1) q2) else pfC G.1 s := by
      rw [← eR]
      by_cases d : j < G.1
      · rw [Pq_s d, show pst G.2.2.1 j (G.2.1 j) ((l, F), 3, 0, 0) = stE j (G.2.1 j) (l, F) from rfl]
        unfold stE
        rw [if_neg (fun z => c ⟨d, z⟩)]
        unfold stB
        dsimp only
        cases cNot l F with
        | inl e => rfl
        | inr s => dsimp only; rw [if_pos d]
      · have ej : j = G.1 := by omega
        subst ej
        rw [Pq_n]
        show (match cNot l F with
          | Sum.inl e => Sum.inl e
          | Sum.inr s1 => pfC G.1 s1) = _
        cases cNot l F with
        | inl e => rfl
        | inr s => dsimp only; rw [if_neg d]
    rcases q with ⟨e, a, b, c1, d, f⟩ | ⟨s, a, b, c1, d⟩
    · rw [a] at eP
      exact Or.inl ⟨e, eP, b, c1, d, f⟩
    · rw [a] at eP
      obtain ⟨w1, w2⟩ := CV.nots V a
      exact Or.inr ⟨j, s, hij, hj, w1, w2, b, c1, d.trans st, eP⟩
end REF

/-! THE REFERENCE: predicates -/
theorem sg_lt {c : Nat} (h : vcd c = true) : sg c < 60 := by
  have := vcd_lt h
  unfold sg
  by_cases h1 : c < 32
  · rw [if_pos h1]; omega
  · rw [if_neg h1]
    by_cases h2 : c < 48
    · rw [if_pos h2]; omega
    · rw [if_neg h2]
      by_cases h3 : c < 64
      · rw [if_pos h3]; omega
      · rw [if_neg h3]; omega
theorem fld_s {α : Type} (z : α) (op : Nat → α → α → α → α) (c : Nat → Nat) (k : Nat) : fld z op c (k + 1) = op (c k) ((fld z op c k).getD 0 z) ((fld z op c k).getD 1 z) ((fld z op c k).getD 2 z) :: (fld z op c k).drop (ar (c k)) := rfl
/-- the kinds of codes, with their signs -/
theorem vcd_sg {c : Nat} (h : vcd c = true) : (c = 0 ∧ sg c = 0) ∨ (c = 16 ∧ sg c = 1) ∨ (32 ≤ c ∧ c < 44 ∧ sg c = c - 22) ∨ (48 ≤ c ∧ c < 60 ∧ sg c = c - 18) ∨ (c = 64 ∧ sg c = 50) ∨ (c = 80 ∧ sg c = 51) ∨ (c = 96 ∧ sg c = 52) ∨ (c = 112 ∧ sg c = 53) ∨ (c = 128 ∧ sg c = 54) := by
  unfold vcd at h
  simp only [Bool.or_eq_true, beq_iff_eq, Bool.and_eq_true, decide_eq_true_eq] at h
  rcases h with (((((((h | h) | h) | h) | h) | h) | h) | h) | h
  · subst h; exact Or.inl ⟨rfl, rfl⟩
  · subst h; exact Or.inr (Or.inl ⟨rfl, rfl⟩)
  · refine Or.inr (Or.inr (Or.inl ⟨h.1, h.2, ?_⟩))
    unfold sg; rw [if_neg (by omega), if_pos (by omega)]
  · refine Or.inr (Or.inr (Or.inr (Or.inl ⟨h.1, h.2, ?_⟩)))
    unfold sg; rw [if_neg (by omega), if_neg (by omega), if_pos (by omega)]
  · subst h; exact Or.inr (Or.inr (Or.inr (Or.inr (Or.inl ⟨rfl, rfl⟩))))
  · subst h; exact Or.inr (Or.inr (Or.inr (Or.inr (Or.inr (Or.inl ⟨rfl, rfl⟩)))))
  · subst h; exact Or.inr (Or.inr (Or.inr (Or.inr (Or.inr (Or.inr (Or.inl ⟨rfl, rfl⟩))))))
  · subst h; exact Or.inr (Or.inr (Or.inr (Or.inr (Or.inr (Or.inr (Or.inr (Or.inl ⟨rfl, rfl⟩)))))))
  · subst h; exact Or.inr (Or.inr (Or.inr (Or.inr (Or.inr (Or.inr (Or.inr (Or.inr ⟨rfl, rfl⟩)))))))
section REF
variable {h : Hp} {G : St}
theorem X10_signOf (M : MI h G) {s i : Nat} (hs : s < 4) (hi : i < (G.2.2.1 s).length) : f_X10_signOf 123 (nI s) (nI i) h = some (nI (sg (cf (G.2.2.1 s) i)), h) := by
  have W := (M.slot hs).1
  have h60 := W.2.2.1
  apply Tr.of_eq
  refine Tr.ck (Lo_123 M.1) (Tr.gp (Lp_123_0 M.1) ?_)
  have e : ((4 : Int32) + (60 : Int32) * nI s) + nI i = nI (4 + 60 * s + i) := by
    rw [show (60 : Int32) = nI 60 from rfl, show (4 : Int32) = nI 4 from rfl, pk_mul, nI_add, nI_add]
  rw [e]
  refine Tr.ca (La_124 M.1 (by omega)) (Tr.ret ⟨?_, rfl⟩)
  rw [nI_clamp (by omega)]
  exact (M.slot hs).2.2 i hi
/-- the height of the work stack and whether what lies there is a predicate -/
def PSt (h : Hp) (L : List Bool) : Prop := gI h 123 10 = nI L.length ∧ Stk bi (gI h 130) L
def pW : Nat → Prop := fun a => a = 123 ∨ a = 129 ∨ a = 130
def PJr (h h1 : Hp) (L : List Bool) : Prop := PSt h1 L ∧ Fr pW h h1 ∧ ∀ i, i ≠ 10 → gI h1 123 i = gI h 123 i
theorem PJr.mi {h1 : Hp} {L : List Bool} (M : MI h G) (J : PJr h h1 L) : MI h1 G := M.wk (J.2.1.wk (fun a x => by unfold pW at x; unfold mW; omega)) (J.2.2 2 (by decide)) (J.2.2 5 (by decide))
/-- the work stack from below: t stays, x comes on it -/
theorem PJr.put {h1 : Hp} {L t : List Bool} (J : PJr h h1 L) (ht : Stk bi (gI h1 130) t) (x : Bool) : PJr h (sI (sI h1 130 t.length (bi x)) 123 10 (nI (t.length + 1))) (x :: t) := by
  refine ⟨⟨by rw [gI_sI, upd_eq]; rfl, ?_⟩, (J.2.1.tr (Fr.sI (Or.inr (Or.inr rfl)))).tr (Fr.sI (Or.inl rfl)), fun i hi => ?_⟩
  · rw [gI_sI_ne (by decide), gI_sI]
    exact ht.push x
  · rw [gI_sI, upd_ne hi, gI_sI_ne (by decide)]
    exact J.2.2 i hi
theorem PJr.put2 {h1 h2 : Hp} {L t : List Bool} {x : Bool} (J : PJr h h1 L) (ht : Stk bi (gI h1 130) t) (e10 : gI h2 123 10 = nI (t.length + 1)) (eo : ∀ i, i ≠ 10 → gI h2 123 i = gI h1 123 i) (e130 : gI h2 130 = va_up (gI h1 130) t.length (bi x)) (F : Fr pW h1 h2) : PJr h h2 (x :: t) := by
  refine ⟨⟨e10, ?_⟩, J.2.1.tr F, fun i hi => by rw [eo i hi]; exact J.2.2 i hi⟩
  rw [e130]; exact ht.push x
theorem X10_waits (L : Lay h) {b : Bool} {x : Int32} {H : List Bool} (J : PSt h H) (hH : H.length < 160) : Tr (f_X10_waits 123 x (bi b) h) (fun _ h1 => PSt h1 (b :: H) ∧ gI h1 129 = va_up (gI h 129) H.length x ∧ Fr pW h h1 ∧ ∀ i, i ≠ 10 → gI h1 123 i = gI h 123 i) := by
  obtain ⟨j1, j2⟩ := J
  refine Tr.ck (Lo_123 L) (Tr.gp (Lp_123_8 L) ?_)
  rw [j1]
  refine Tr.ca (La_129 L hH) ?_
  rw [nI_clamp (by omega)]
  have F1 : Fr pW h (sI h 129 H.length x) := Fr.sI (Or.inr (Or.inl rfl))
  have L1 := F1.lay L
  have a1 : gI (sI h 129 H.length x) 123 = gI h 123 := gI_sI_ne (by decide)
  have a2 : gI (sI h 129 H.length x) 130 = gI h 130 := gI_sI_ne (by decide)
  have a3 : gI (sI h 129 H.length x) 129 = va_up (gI h 129) H.length x := gI_sI
  generalize sI h 129 H.length x = h1 at F1 L1 a1 a2 a3 ⊢
  rw [a1, j1]
  have fin : ∀ y, y = bi b → Tr (f_X10_waits_27 123 130 (nI H.length) y h1) (fun _ h1 => PSt h1 (b :: H) ∧ gI h1 129 = va_up (gI h 129) H.length x ∧ Fr pW h h1 ∧ ∀ i, i ≠ 10 → gI h1 123 i = gI h 123 i) := by
    intro y ey
    subst ey
    refine Tr.ca (La_130 L1 hH) (Tr.ck (Lo_123 L1.sI) ?_)
    rw [nI_clamp (by omega), gI_sI_ne (by decide), a1, j1, nI_1]
    refine Tr.nmx (Tr.ret ⟨⟨by rw [gI_sI, upd_eq]; rfl, ?_⟩, ?_, (F1.tr (Fr.sI (Or.inr (Or.inr rfl)))).tr (Fr.sI (Or.inl rfl)), fun i hi => ?_⟩)
    · rw [gI_sI_ne (by decide), gI_sI, a2]
      exact j2.push b
    · rw [gI_sI_ne (by decide), gI_sI_ne (by decide)]; exact a3
    · rw [gI_sI, upd_ne hi, gI_sI_ne (by decide), a1]
  refine Tr.gp (Lp_123_9 L1) ?_
  cases b with
  | false => exact Tr.pos rfl (fin _ rfl)
  | true => exact Tr.neg (by decide) (fin _ rfl)
theorem X10_ipush {h1 : Hp} {st : List Bool} {b : Bool} {k : Nat} {l0 : Nat} {l1 y : Int32} {kk : Int32 × Hp → Option (Int32 × Hp)} {Q : Int32 → Hp → Prop} (L1 : Lay h1) (J : PJr h h1 st) (hst : st.length < 160) (ey : y = bi b) (hk' : ∀ x, x.1 = nI (k + 1) ∧ PJr h x.2 (b :: st) → Tr (kk x) Q) : Tr (f_X10_isPredicateRow_43 kk l0 l1 (nI k) 123 0 y h1) Q := by
  rw [ey]
  refine Tr.ck (Lo_123 L1) (Tr.bd (X10_waits L1 J.1 hst) (fun _ h2 q => Tr.nmx (hk' _ ⟨nI_1 k, q.1, J.2.1.tr q.2.2.1, fun i hi => ?_⟩)))
  dsimp only
  rw [q.2.2.2 i hi]; exact J.2.2 i hi
theorem X10_ipop {h1 : Hp} {t : List Bool} {a0 a1 : Bool} {k : Nat} {l1 : Int32} {kk : Int32 × Hp → Option (Int32 × Hp)} {Q : Int32 → Hp → Prop} (L1 : Lay h1) (J : PJr h h1 (a0 :: a1 :: t)) (hst : t.length < 150) (hk' : ∀ x, x.1 = nI (k + 1) ∧ PJr h x.2 ((a1 && a0) :: t) → Tr (kk x) Q) : Tr (f_X10_isPredicateRow_82 kk 123 l1 (nI k) h1) Q := by
  obtain ⟨⟨j1, j2, j3, j4⟩, jF, jO⟩ := id J
  have j1 : gI h1 123 10 = nI (t.length + 2) := j1
  have e1 : gI h1 123 10 - 1 = nI (t.length + 1) := by rw [j1]; exact pk_sub (a := t.length + 2) (b := 1) (by omega)
  refine Tr.ck (Lo_123 L1) ?_
  rw [e1]
  have L2 : Lay (sI h1 123 10 (nI (t.length + 1))) := L1
  have g1 : gI (sI h1 123 10 (nI (t.length + 1))) 123 10 = nI (t.length + 1) := by rw [gI_sI, upd_eq]
  have g2 : gI (sI h1 123 10 (nI (t.length + 1))) 130 = gI h1 130 := gI_sI_ne (by decide)
  have e2 : nI (t.length + 1) - 1 = nI t.length := pk_sub (a := t.length + 1) (b := 1) (by omega)
  refine Tr.gp (Lp_123_9 L2) ?_
  rw [g1, e2]
  refine Tr.nm (fun v ev => ?_)
  subst ev
  refine Tr.ca (La_130 L2 (by omega)) (Tr.gp (Lp_123_9 L2) (Tr.ca (La_130 L2 (by omega)) (Tr.ca (La_130 L2 (by omega)) ?_)))
  have j3 : gI h1 130 t.length = bi a1 := j3
  have j2 : gI h1 130 (t.length + 1) = bi a0 := j2
  rw [nI_clamp (by omega), nI_clamp (by omega), g2, j3, j2, bi_and]
  refine Tr.nmx (Tr.nmx (hk' _ ⟨nI_1 k, J.put2 j4 ?_ (fun i hi => ?_) ?_ ?_⟩))
  · rw [gI_sI_ne (by decide)]; exact g1
  · rw [gI_sI_ne (by decide), gI_sI, upd_ne hi]
  · rw [gI_sI, g2]
  · exact (Fr.sI (Or.inl rfl)).tr (Fr.sI (Or.inr (Or.inr rfl)))
theorem st_two {α : Type} {st : List α} (h : 2 ≤ st.length) : ∃ a b t, st = a :: b :: t := by
  match st, h with
  | a :: b :: t, _ => exact ⟨a, b, t, rfl⟩
theorem st_one {α : Type} {st : List α} (h : 1 ≤ st.length) : ∃ a t, st = a :: t := by
  match st, h with
  | a :: t, _ => exact ⟨a, t, rfl⟩
theorem st_three {α : Type} {st : List α} (h : 3 ≤ st.length) : ∃ a b c t, st = a :: b :: c :: t := by
  match st, h with
  | a :: b :: c :: t, _ => exact ⟨a, b, c, t, rfl⟩
theorem X10_isPredicateRowW (M : MI h G) {s : Nat} (hs : s < 4) : Tr (f_X10_isPredicateRow 123 (nI s) h) (fun r h1 => r = bi (prd (G.2.2.1 s)) ∧ MI h1 G ∧ Fr pW h h1) := by
  have L := M.1
  have W := (M.slot hs).1
  have h60 := W.2.2.1
  refine Tr.ck (Lo_123 L) ?_
  refine Tr.up (N := (G.2.2.1 s).length) (J := fun k x => x.1 = nI k ∧ PJr h x.2 (fld false opB (cf (G.2.2.1 s)) k)) ?_ ?_ (p := 0) ⟨rfl, ⟨by rw [gI_sI, upd_eq]; rfl, trivial⟩, Fr.sI (Or.inl rfl), fun i hi => by rw [gI_sI, upd_ne hi]⟩ (Nat.zero_le _) (by omega)
  · intro k x kk hk hJ hk'
    obtain ⟨x1, h1⟩ := x
    obtain ⟨e, J⟩ := hJ
    dsimp only at e J
    subst e
    dsimp only
    have M1 := J.mi M
    have L1 := M1.1
    have ok := W.1 k hk
    have flen : (fld false opB (cf (G.2.2.1 s)) k).length = (rt (cf (G.2.2.1 s)) k).length := fld_len _ _ _ _
    have flen2 := rt_len_le (cf (G.2.2.1 s)) k
    have es := fld_s false opB (cf (G.2.2.1 s)) k
    have hv : vcd (cf (G.2.2.1 s) k) = true := W.2.2.2 _ (gD_mem _ _ hk)
    have sgn := X10_signOf M1 hs hk
    refine Tr.ck (Lo_123 L1) (Tr.gp (Lp_123_0 L1) (Tr.ca (La_124 L1 (by omega)) ?_))
    rw [nI_clamp (by omega), (M1.slot hs).2.1]
    refine Tr.neg (nI_ge (b := (G.2.2.1 s).length) hk (by omega)) (Tr.be sgn ?_)
    generalize cf (G.2.2.1 s) k = c at ok es hv sgn
    generalize hst : fld false opB (cf (G.2.2.1 s)) k = st at J flen es
    have J1 := J.1.1
    have J2 := J.1.2
    rw [← flen] at ok
    rcases vcd_sg hv with ⟨ec, eg⟩ | ⟨ec, eg⟩ | ⟨ec, ed, eg⟩ | ⟨ec, ed, eg⟩ | ⟨ec, eg⟩ | ⟨ec, eg⟩ | ⟨ec, eg⟩ | ⟨ec, eg⟩ | ⟨ec, eg⟩
    · subst ec
      rw [eg]
      refine Tr.neg (by decide) (Tr.neg (by decide) (X10_ipush (b := true) L1 J (by omega) rfl (fun x q => hk' x ⟨q.1, ?_⟩)))
      rw [es]; exact q.2
    · subst ec
      rw [eg]
      refine Tr.neg (by decide) (Tr.neg (by decide) (X10_ipush (b := true) L1 J (by omega) rfl (fun x q => hk' x ⟨q.1, ?_⟩)))
      rw [es]; exact q.2
    · have e0 : ar c = 0 := by unfold ar; rw [if_pos (by omega)]
      have e1 : ∀ x y z, opB c x y z = true := fun x y z => by unfold opB; rw [if_pos (by omega)]
      rw [eg]
      refine Tr.neg (nI_ge (b := 50) (by omega) (by decide)) (Tr.neg (nI_ge (b := 30) (by omega) (by decide)) (X10_ipush (b := true) L1 J (by omega) rfl (fun x q => hk' x ⟨q.1, ?_⟩)))
      rw [es, e0, e1]; exact q.2
    · have e0 : ar c = 0 := by unfold ar; rw [if_pos (by omega)]
      have e1 : ∀ x y z, opB c x y z = false := fun x y z => by unfold opB; rw [if_neg (by omega), if_pos (by omega)]
      rw [eg]
      refine Tr.neg (nI_ge (b := 50) (by omega) (by decide)) (Tr.pos (nI_le (a := 30) (by omega) (by omega)) (X10_ipush (b := false) L1 J (by omega) rfl (fun x q => hk' x ⟨q.1, ?_⟩)))
      rw [es, e0, e1]; exact q.2
    · subst ec
      rw [eg]
      obtain ⟨a0, a1, t, rfl⟩ := st_two ok
      rw [List.length_cons, List.length_cons] at flen
      refine Tr.pos (by decide) (Tr.neg (by decide) (Tr.pos (by decide) (X10_ipop L1 J (by omega) (fun x q => hk' x ⟨q.1, ?_⟩))))
      rw [es]; exact q.2
    · subst ec
      rw [eg]
      obtain ⟨a0, a1, t, rfl⟩ := st_two ok
      rw [List.length_cons, List.length_cons] at flen
      refine Tr.pos (by decide) (Tr.neg (by decide) (Tr.neg (by decide) (Tr.pos (by decide) (X10_ipop L1 J (by omega) (fun x q => hk' x ⟨q.1, ?_⟩)))))
      rw [es]; exact q.2
    · subst ec
      rw [eg]
      obtain ⟨a0, t, rfl⟩ := st_one ok
      rw [List.length_cons] at flen
      have j1 : gI h1 123 10 = nI (t.length + 1) := J1
      have e1 : gI h1 123 10 - 1 = nI t.length := by rw [j1]; exact pk_sub (a := t.length + 1) (b := 1) (by omega)
      refine Tr.pos (by decide) (Tr.pos (by decide) (Tr.ck (Lo_123 L1) (Tr.gp (Lp_123_9 L1) ?_)))
      rw [e1]
      refine Tr.ca (La_130 L1 (by omega)) (Tr.nmx (hk' _ ⟨nI_1 k, ?_⟩))
      rw [es, nI_clamp (by omega)]
      exact J.put2 (x := false) J2.2 (by rw [gI_sI_ne (by decide)]; exact j1) (fun i hi => by rw [gI_sI_ne (by decide)]) gI_sI (Fr.sI (Or.inr (Or.inr rfl)))
    · subst ec
      rw [eg]
      obtain ⟨a0, t, rfl⟩ := st_one ok
      refine Tr.pos (by decide) (Tr.neg (by decide) (Tr.neg (by decide) (Tr.neg (by decide) (Tr.neg (by decide) (Tr.nmx (hk' _ ⟨nI_1 k, ?_⟩))))))
      rw [es]; exact J
    · subst ec
      rw [eg]
      obtain ⟨a0, a1, a2, t, rfl⟩ := st_three ok
      rw [List.length_cons, List.length_cons, List.length_cons] at flen
      have j1 : gI h1 123 10 = nI (t.length + 3) := J1
      have e1 : gI h1 123 10 - 2 = nI (t.length + 1) := by rw [j1]; exact pk_sub (a := t.length + 3) (b := 2) (by omega)
      refine Tr.pos (by decide) (Tr.neg (by decide) (Tr.neg (by decide) (Tr.neg (by decide) (Tr.pos (by decide) (Tr.ck (Lo_123 L1) ?_)))))
      rw [e1]
      have L2 : Lay (sI h1 123 10 (nI (t.length + 1))) := L1
      have g1 : gI (sI h1 123 10 (nI (t.length + 1))) 123 10 = nI (t.length + 1) := by rw [gI_sI, upd_eq]
      have g2 : gI (sI h1 123 10 (nI (t.length + 1))) 130 = gI h1 130 := gI_sI_ne (by decide)
      have e2 : nI (t.length + 1) - 1 = nI t.length := pk_sub (a := t.length + 1) (b := 1) (by omega)
      refine Tr.gp (Lp_123_9 L2) (Tr.gp (Lp_123_9 L2) ?_)
      rw [g1, e2, nI_1]
      refine Tr.ca (La_130 L2 (by omega)) (Tr.gp (Lp_123_9 L2) (Tr.ca (La_130 L2 (by omega)) (Tr.ca (La_130 L2 (by omega)) ?_)))
      have j3 : gI h1 130 (t.length + 1) = bi a1 := J2.2.1
      have j2 : gI h1 130 (t.length + 1 + 1) = bi a0 := J2.1
      rw [nI_clamp (by omega), nI_clamp (by omega), nI_clamp (by omega), g2, j3, j2, bi_and]
      refine Tr.nmx (Tr.nmx (hk' _ ⟨nI_1 k, ?_⟩))
      rw [es]
      show PJr h _ ((a1 && a0) :: t)
      refine J.put2 (x := a1 && a0) J2.2.2.2 ?_ (fun i hi => ?_) ?_ ?_
      · rw [gI_sI_ne (by decide)]; exact g1
      · rw [gI_sI_ne (by decide), gI_sI, upd_ne hi]
      · rw [gI_sI, g2]
      · exact (Fr.sI (Or.inl rfl)).tr (Fr.sI (Or.inr (Or.inr rfl)))
  · intro x kk hJ
    obtain ⟨x1, h1⟩ := x
    obtain ⟨e, J⟩ := hJ
    dsimp only at e J
    subst e
    dsimp only
    have M1 := J.mi M
    have L1 := M1.1
    have so := sB_one W.pre
    unfold sB at so
    have J2 := J.1.2
    rw [so] at J2
    have g : gI h1 130 0 = bi (prd (G.2.2.1 s)) := J2.1
    refine Tr.ck (Lo_123 L1) (Tr.gp (Lp_123_0 L1) (Tr.ca (La_124 L1 (by omega)) ?_))
    rw [nI_clamp (by omega), (M1.slot hs).2.1]
    refine Tr.pos (nI_le (b := (G.2.2.1 s).length) (Nat.le_refl _) (by omega)) (Tr.gp (Lp_123_9 L1) (Tr.ca (La_130 (j := 0) L1 (by decide)) ?_))
    rw [show (0 : Int32).toNatClampNeg = 0 from rfl, g]
    have FF : Fr pW h h1 := J.2.1
    cases prd (G.2.2.1 s) with
    | false => exact Tr.neg (by decide) (Tr.ret ⟨rfl, M1, FF⟩)
    | true => exact Tr.pos (by decide) (Tr.ret ⟨rfl, M1, FF⟩)
theorem X10_isPredicateRow (M : MI h G) {s : Nat} (hs : s < 4) : Tr (f_X10_isPredicateRow 123 (nI s) h) (fun r h1 => r = bi (prd (G.2.2.1 s)) ∧ MI h1 G ∧ Fr mA h h1) :=
  Tr.imp (X10_isPredicateRowW M hs) (fun _ _ q => ⟨q.1, q.2.1, q.2.2.wk (fun a x => by unfold pW at x; show 123 ≤ a; omega)⟩)
end REF

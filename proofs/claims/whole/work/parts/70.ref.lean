/-! THE REFERENCE: what a slot does to the packets -/
theorem fld_one {l : List Nat} (W : Wf l) {α : Type} (z : α) (op : Nat → α → α → α → α) : fld z op (cf l) l.length = [nd z op (cf l) (l.length - 1)] := by
  have h1 := W.2.1
  have hl : (fld z op (cf l) l.length).length = 1 := by rw [fld_len, h1]
  have h0 : 0 < (rt (cf l) l.length).length := by omega
  have e := fld_get z op (c := cf l) (n := l.length) (i := 0) h0
  rw [upN_0] at e
  match h2 : fld z op (cf l) l.length, hl with
  | [x], _ => rw [h2] at e; rw [← e]; rfl
section REF
variable {h : Hp} {G : St}
theorem X10_ops21 (L : Lay h) {g a : Nat} {t : List (Nat → Int64)} {n : Nat} (hg : 50 ≤ g ∧ g ≤ 54) (ha : a = if g = 54 then 3 else if g < 52 then 2 else 1) (hn : n = t.length + a) (h60 : n ≤ 60) (hh : gI h 123 25 = nI n) (hS : SetS (gL h 139) t) : Tr (f_X10_operates_21 123 (nI g) (nI a) h) (fun _ h1 => gI h1 123 25 = nI (t.length + 1) ∧ (∀ p, p < 64 → gL h1 139 (64 * t.length + p) = opR g (gL h 139) (64 * t.length) p) ∧ SetS (gL h1 139) t ∧ EFr h h1) := by
  have ha1 : 1 ≤ a ∧ a ≤ 3 := by
    rw [ha]
    by_cases c : g = 54
    · rw [if_pos c]; omega
    · rw [if_neg c]
      by_cases c2 : g < 52
      · rw [if_pos c2]; omega
      · rw [if_neg c2]; omega
  have e1 : gI h 123 25 - (nI a - 1) = nI (t.length + 1) := by
    rw [hh, show nI a - 1 = nI (a - 1) from pk_sub (a := a) (b := 1) (by omega), pk_sub (by omega)]; congr 1; omega
  refine Tr.ck (Lo_123 L) ?_
  rw [e1, gI_sI, upd_eq]
  have e2 : (64 : Int32) * (nI (t.length + 1) - 1) = nI (64 * t.length) := by
    rw [show nI (t.length + 1) - 1 = nI t.length from pk_sub (a := t.length + 1) (b := 1) (by omega), show (64 : Int32) = nI 64 from rfl, pk_mul]
  rw [e2]
  have e3 : nI (64 * t.length) + (64 : Int32) = nI (64 * t.length + 64) := nI_add _ _
  have e4 : nI (64 * t.length + 64) + (64 : Int32) = nI (64 * t.length + 128) := nI_add _ _
  refine Tr.nmx ?_
  rw [e3]
  refine Tr.nmx ?_
  rw [e4]
  refine Tr.nmx ?_
  have L1 : Lay (sI h 123 25 (nI (t.length + 1))) := L
  refine Tr.imp (X10_ops60 L1 hg (b := 64 * t.length) (by rw [← ha]; omega)) (fun _ h1 q => ?_)
  obtain ⟨q1, q2, F⟩ := q
  have g0 : gL (sI h 123 25 (nI (t.length + 1))) 139 = gL h 139 := rfl
  rw [g0] at q1 q2
  have e123 : gI h1 123 = gI (sI h 123 25 (nI (t.length + 1))) 123 := F.I (by omega)
  refine ⟨by rw [e123, gI_sI, upd_eq], q2, hS.cg (fun j hj => q1 j hj), ?_, fun i hi => by rw [e123, gI_sI, upd_ne hi]⟩
  have F0 : Fr eW h (sI h 123 25 (nI (t.length + 1))) := Fr.sI (Or.inl rfl)
  exact F0.tr (F.wk (fun a x => Or.inr x))
theorem X10_operates (L : Lay h) {c : Nat} {st : List (Nat → Int64)} (hv : vcd c = true) (hc : 64 ≤ c) (S : SetT h st) (ha : ar c ≤ st.length) (h60 : st.length ≤ 60) : Tr (f_X10_operates 123 (nI (sg c)) h) (fun _ h1 => SetT h1 (opI c (st.getD 0 zI) (st.getD 1 zI) (st.getD 2 zI) :: st.drop (ar c)) ∧ EFr h h1) := by
  obtain ⟨s1, s2⟩ := S
  rcases vcd_sg hv with ⟨ec, eg⟩ | ⟨ec, eg⟩ | ⟨ec, ed, eg⟩ | ⟨ec, ed, eg⟩ | ⟨ec, eg⟩ | ⟨ec, eg⟩ | ⟨ec, eg⟩ | ⟨ec, eg⟩ | ⟨ec, eg⟩
  · omega
  · omega
  · omega
  · omega
  · subst ec
    obtain ⟨a0, a1, t, rfl⟩ := st_two ha
    rw [eg]
    refine Tr.neg (by decide) (Tr.imp (X10_ops21 L (g := 50) (a := 2) (n := t.length + 2) (by decide) rfl rfl h60 s1 s2.2.2) (fun _ h1 q => ⟨⟨q.1, fun p hp => ?_, q.2.2.1⟩, q.2.2.2⟩))
    refine (q.2.1 p hp).trans ?_
    rw [opI_64]
    show gL h 139 (64 * t.length + p) ||| gL h 139 (64 * t.length + 64 + p) = a1 p ||| a0 p
    rw [s2.2.1 p hp, show 64 * t.length + 64 + p = 64 * (a1 :: t).length + p by rw [List.length_cons]; omega, s2.1 p hp]
  · subst ec
    obtain ⟨a0, a1, t, rfl⟩ := st_two ha
    rw [eg]
    refine Tr.neg (by decide) (Tr.imp (X10_ops21 L (g := 51) (a := 2) (n := t.length + 2) (by decide) rfl rfl h60 s1 s2.2.2) (fun _ h1 q => ⟨⟨q.1, fun p hp => ?_, q.2.2.1⟩, q.2.2.2⟩))
    refine (q.2.1 p hp).trans ?_
    rw [opI_80]
    show seqI (gL h 139 (64 * t.length + p)) (fun q => gL h 139 (64 * t.length + 64 + q)) = seqI (a1 p) a0
    rw [s2.2.1 p hp]
    refine seqI_congr (fun q hq => ?_)
    rw [show 64 * t.length + 64 + q = 64 * (a1 :: t).length + q by rw [List.length_cons]; omega, s2.1 q hq]
  · subst ec
    obtain ⟨a0, t, rfl⟩ := st_one ha
    rw [eg]
    refine Tr.pos (by decide) (Tr.neg (by decide) (Tr.imp (X10_ops21 L (g := 52) (a := 1) (n := t.length + 1) (by decide) rfl rfl h60 s1 s2.2) (fun _ h1 q => ⟨⟨q.1, fun p hp => ?_, q.2.2.1⟩, q.2.2.2⟩)))
    refine (q.2.1 p hp).trans ?_
    rw [opI_96]
    show starI (fun q => gL h 139 (64 * t.length + q)) p = starI a0 p
    exact starI_congr (fun q hq => s2.1 q hq) hp
  · subst ec
    obtain ⟨a0, t, rfl⟩ := st_one ha
    rw [eg]
    refine Tr.pos (by decide) (Tr.neg (by decide) (Tr.imp (X10_ops21 L (g := 53) (a := 1) (n := t.length + 1) (by decide) rfl rfl h60 s1 s2.2) (fun _ h1 q => ⟨⟨q.1, fun p hp => ?_, q.2.2.1⟩, q.2.2.2⟩)))
    refine (q.2.1 p hp).trans ?_
    rw [opI_112]
    show (if gL h 139 (64 * t.length + p) = 0 then ob p else 0) = if a0 p = 0 then ob p else 0
    rw [s2.1 p hp]
  · subst ec
    obtain ⟨a0, a1, a2, t, rfl⟩ := st_three ha
    rw [eg]
    refine Tr.pos (by decide) (Tr.pos (by decide) (Tr.imp (X10_ops21 L (g := 54) (a := 3) (n := t.length + 3) (by decide) rfl rfl h60 s1 s2.2.2.2) (fun _ h1 q => ⟨⟨q.1, fun p hp => ?_, q.2.2.1⟩, q.2.2.2⟩)))
    refine (q.2.1 p hp).trans ?_
    rw [opI_128]
    show (if gL h 139 (64 * t.length + p) = 0 then gL h 139 (64 * t.length + 128 + p) else gL h 139 (64 * t.length + 64 + p)) = if a2 p = 0 then a0 p else a1 p
    rw [s2.2.2.1 p hp, show 64 * t.length + 64 + p = 64 * (a2 :: t).length + p by rw [List.length_cons]; omega, s2.2.1 p hp, show 64 * t.length + 128 + p = 64 * (a1 :: a2 :: t).length + p by rw [List.length_cons, List.length_cons]; omega, s2.1 p hp]
theorem X10_evaluates (M : MI h G) {s : Nat} (hs : s < 4) : Tr (f_X10_evaluates 123 (nI s) h) (fun _ h1 => EFr h h1 ∧ ∀ p, p < 64 → gL h1 139 p = evI (G.2.2.1 s) p) := by
  have L := M.1
  have W := (M.slot hs).1
  have h60 := W.2.2.1
  refine Tr.ck (Lo_123 L) ?_
  refine Tr.up (N := (G.2.2.1 s).length) (J := fun k x => x.1 = nI k ∧ SetT x.2 (fld zI opI (cf (G.2.2.1 s)) k) ∧ EFr h x.2) ?_ ?_ (p := 0) ⟨rfl, ⟨by rw [gI_sI, upd_eq]; rfl, trivial⟩, Fr.sI (Or.inl rfl), fun i hi => by rw [gI_sI, upd_ne hi]⟩ (Nat.zero_le _) (by omega)
  · intro k x kk hk hJ hk'
    obtain ⟨x1, h1⟩ := x
    obtain ⟨e, S, F⟩ := hJ
    dsimp only at e S F
    subst e
    dsimp only
    have M1 := F.mi M
    have L1 := M1.1
    have ok := W.1 k hk
    have flen : (fld zI opI (cf (G.2.2.1 s)) k).length = (rt (cf (G.2.2.1 s)) k).length := fld_len _ _ _ _
    have flen2 := rt_len_le (cf (G.2.2.1 s)) k
    have es := fld_s zI opI (cf (G.2.2.1 s)) k
    have hv : vcd (cf (G.2.2.1 s) k) = true := W.2.2.2 _ (gD_mem _ _ hk)
    have sgn := X10_signOf M1 hs hk
    refine Tr.ck (Lo_123 L1) (Tr.gp (Lp_123_0 L1) (Tr.ca (La_124 L1 (by omega)) ?_))
    rw [nI_clamp (by omega), (M1.slot hs).2.1]
    refine Tr.neg (nI_ge (b := (G.2.2.1 s).length) hk (by omega)) (Tr.be sgn ?_)
    have hlt := sg_lt hv
    by_cases c : 64 ≤ cf (G.2.2.1 s) k
    · have c50 : 50 ≤ sg (cf (G.2.2.1 s) k) := by
        rcases vcd_sg hv with ⟨ec, eg⟩ | ⟨ec, eg⟩ | ⟨ec, ed, eg⟩ | ⟨ec, ed, eg⟩ | ⟨ec, eg⟩ | ⟨ec, eg⟩ | ⟨ec, eg⟩ | ⟨ec, eg⟩ | ⟨ec, eg⟩ <;> omega
      refine Tr.pos (nI_le (a := 50) c50 (by omega)) (Tr.ck (Lo_123 L1) (Tr.bd (X10_operates L1 hv c S (by omega) (by omega)) (fun _ h2 q => Tr.nmx (hk' _ ⟨nI_1 k, ?_, F.tr q.2⟩))))
      dsimp only
      rw [es]; exact q.1
    · have c50 : sg (cf (G.2.2.1 s) k) < 50 := by
        rcases vcd_sg hv with ⟨ec, eg⟩ | ⟨ec, eg⟩ | ⟨ec, ed, eg⟩ | ⟨ec, ed, eg⟩ | ⟨ec, eg⟩ | ⟨ec, eg⟩ | ⟨ec, eg⟩ | ⟨ec, eg⟩ | ⟨ec, eg⟩ <;> omega
      refine Tr.neg (nI_ge (b := 50) c50 (by decide)) (Tr.ck (Lo_123 L1) (Tr.bd (X10_simple L1 hv (by omega) S.1 (by omega)) (fun _ h2 q => Tr.nmx (hk' _ ⟨nI_1 k, ?_, F.tr q.2.1⟩))))
      obtain ⟨q1, q2, q3, q4⟩ := q
      dsimp only
      have a0 : ar (cf (G.2.2.1 s) k) = 0 := by unfold ar; rw [if_pos (by omega)]
      rw [es, a0, opI_lf (by omega)]
      exact ⟨q1, q4, S.2.cg q3⟩
  · intro x kk hJ
    obtain ⟨x1, h1⟩ := x
    obtain ⟨e, S, F⟩ := hJ
    dsimp only at e S F
    subst e
    dsimp only
    have M1 := F.mi M
    have L1 := M1.1
    rw [fld_one W] at S
    refine Tr.ck (Lo_123 L1) (Tr.gp (Lp_123_0 L1) (Tr.ca (La_124 L1 (by omega)) ?_))
    rw [nI_clamp (by omega), (M1.slot hs).2.1]
    refine Tr.pos (nI_le (b := (G.2.2.1 s).length) (Nat.le_refl _) (by omega)) (Tr.ret ⟨F, fun p hp => ?_⟩)
    have := S.2.1 p hp
    rwa [List.length_nil, Nat.mul_zero, Nat.zero_add] at this
end REF

/-! WHAT THE LAW CHECKS, IN PURE TERMS: a policy made of policies turns packets into what its operands do -/
theorem opI_hop (c : Nat) (a0 a1 a2 b0 b1 b2 : Nat → Int64) (h0 : 0 < ar c → a0 = b0) (h1 : 1 < ar c → a1 = b1) (h2 : 2 < ar c → a2 = b2) : opI c a0 a1 a2 = opI c b0 b1 b2 := by
  unfold opI
  by_cases c1 : c < 64
  · rw [if_pos c1, if_pos c1]
  rw [if_neg c1, if_neg c1]
  by_cases c2 : c < 80
  · have e : ar c = 2 := by unfold ar; rw [if_neg c1, if_pos (by omega)]
    rw [if_pos c2, if_pos c2, h0 (by omega), h1 (by omega)]
  rw [if_neg c2, if_neg c2]
  by_cases c3 : c < 96
  · have e : ar c = 2 := by unfold ar; rw [if_neg c1, if_pos (by omega)]
    rw [if_pos c3, if_pos c3, h0 (by omega), h1 (by omega)]
  rw [if_neg c3, if_neg c3]
  by_cases c4 : c < 112
  · have e : ar c = 1 := by unfold ar; rw [if_neg c1, if_neg c3, if_pos (by omega)]
    rw [if_pos c4, if_pos c4, h0 (by omega)]
  rw [if_neg c4, if_neg c4]
  by_cases c5 : c < 128
  · have e : ar c = 1 := by unfold ar; rw [if_neg c1, if_neg c3, if_pos c5]
    rw [if_pos c5, if_pos c5, h0 (by omega)]
  · have e : ar c = 3 := by unfold ar; rw [if_neg c1, if_neg c3, if_neg c5]
    rw [if_neg c5, if_neg c5, h0 (by omega), h1 (by omega), h2 (by omega)]
noncomputable def eS (l : List Nat) : List (Nat → Int64) := fld zI opI (cf l) l.length
theorem eS_snoc (l : List Nat) (c : Nat) : eS (l ++ [c]) = opI c ((eS l).getD 0 zI) ((eS l).getD 1 zI) ((eS l).getD 2 zI) :: (eS l).drop (ar c) := by
  unfold eS
  rw [List.length_append]
  have e : fld zI opI (cf (l ++ [c])) l.length = fld zI opI (cf l) l.length := fld_congr _ _ (fun j hj => cf_app_l hj)
  show opI (cf (l ++ [c]) l.length) ((fld zI opI (cf (l ++ [c])) l.length).getD 0 zI) ((fld zI opI (cf (l ++ [c])) l.length).getD 1 zI) ((fld zI opI (cf (l ++ [c])) l.length).getD 2 zI) :: (fld zI opI (cf (l ++ [c])) l.length).drop (ar (cf (l ++ [c]) l.length)) = _
  rw [e, cf_snoc]
theorem eS_app {l m : List Nat} (hm : okc (cf m) m.length) : eS (l ++ m) = eS m ++ eS l := by
  unfold eS
  rw [List.length_append, fld_app zI opI opI_hop hm]
theorem eS_hd {l : List Nat} (hl : 1 ≤ l.length) : evI l = (eS l).getD 0 zI := by
  unfold evI eS
  obtain ⟨k, hk⟩ : ∃ k, l.length = k + 1 := ⟨l.length - 1, by omega⟩
  rw [hk]
  rfl
theorem eS_one {l : List Nat} (P : Pre l 1) : eS l = [evI l] := by
  have h : (eS l).length = 1 := by unfold eS; rw [fld_len, P.2.1]
  have h1 : 1 ≤ l.length := by have := rt_len_le (cf l) l.length; rw [P.2.1] at this; exact this
  rw [eS_hd h1]
  match h2 : eS l, h with
  | [x], _ => rfl
theorem ev_two {l m : List Nat} {c : Nat} (Pl : Pre l 1) (Pm : Pre m 1) : evI (l ++ m ++ [c]) = opI c (evI m) (evI l) zI := by
  rw [eS_hd (by simp; omega), eS_snoc, eS_app Pm.1, eS_one Pl, eS_one Pm]
  rfl
theorem ev_uni {l m : List Nat} (Pl : Pre l 1) (Pm : Pre m 1) (p : Nat) : evI (l ++ m ++ [64]) p = evI l p ||| evI m p := by rw [ev_two Pl Pm, opI_64]
theorem ev_seq {l m : List Nat} (Pl : Pre l 1) (Pm : Pre m 1) (p : Nat) : evI (l ++ m ++ [80]) p = seqI (evI l p) (evI m) := by rw [ev_two Pl Pm, opI_80]
theorem ev_un {l : List Nat} {c : Nat} (Pl : Pre l 1) : evI (l ++ [c]) = opI c (evI l) zI zI := by
  rw [eS_hd (by simp), eS_snoc, eS_one Pl]
  rfl
theorem ev_rep {l : List Nat} (Pl : Pre l 1) (p : Nat) : evI (l ++ [96]) p = starI (evI l) p := by rw [ev_un Pl, opI_96]
theorem ev_neg {l : List Nat} (Pl : Pre l 1) (p : Nat) : evI (l ++ [112]) p = if evI l p = 0 then ob p else 0 := by rw [ev_un Pl, opI_112]
theorem prd_two {l m : List Nat} {o : Nat} (ho : o < 2) (Pl : Pre l 1) (Pm : Pre m 1) : prd (l ++ m ++ [64 + 16 * o]) = (prd l && prd m) := by
  have e : prd (l ++ m ++ [64 + 16 * o]) = (sB (l ++ m ++ [64 + 16 * o])).getD 0 false := rfl
  rw [e, sB_snoc, sB_app Pm.1, sB_one Pl, sB_one Pm]
  show opB (64 + 16 * o) (prd m) (prd l) false = _
  unfold opB
  rw [if_neg (by omega), if_neg (by omega), if_pos (by omega)]
theorem prd_rep {l : List Nat} (Pl : Pre l 1) : prd (l ++ [96]) = false := by
  have e : prd (l ++ [96]) = (sB (l ++ [96])).getD 0 false := rfl
  rw [e, sB_snoc, sB_one Pl]
  rfl
theorem prd_neg {l : List Nat} (Pl : Pre l 1) (h : prd l = true) : prd (l ++ [112]) = true := by
  have e : prd (l ++ [112]) = (sB (l ++ [112])).getD 0 false := rfl
  rw [e, sB_snoc, sB_one Pl]
  exact h
theorem pre_two {l m : List Nat} {o : Nat} (ho : o < 2) (Pl : Pre l 1) (Pm : Pre m 1) : Pre (l ++ m ++ [64 + 16 * o]) 1 := by
  have hv : vcd (64 + 16 * o) = true := by rcases (by omega : o = 0 ∨ o = 1) with rfl | rfl <;> rfl
  have ha : ar (64 + 16 * o) = 2 := by unfold ar; rw [if_neg (by omega), if_pos (by omega)]
  have := (Pl.app Pm).snoc hv (by omega)
  rwa [ha] at this
theorem pre_un {l : List Nat} {o : Nat} (ho : o < 2) (Pl : Pre l 1) : Pre (l ++ [96 + 16 * o]) 1 := by
  have hv : vcd (96 + 16 * o) = true := by rcases (by omega : o = 0 ∨ o = 1) with rfl | rfl <;> rfl
  have ha : ar (96 + 16 * o) = 1 := by unfold ar; rw [if_neg (by omega), if_neg (by omega), if_pos (by omega)]
  have := Pl.snoc hv (by omega)
  rwa [ha] at this
/-! predicates let a packet through, or not -/
def Pt (b : Bool) (f : Nat → Int64) : Prop := b = true → ∀ p, p < 64 → f p = 0 ∨ f p = ob p
theorem seqI_0 (f : Nat → Int64) : seqI 0 f = 0 := bq_eq (fun i _ => by
  rw [bq_seqI, bq_0]
  constructor
  · rintro ⟨q, _, h, _⟩; rw [bq_0] at h; cases h
  · intro h; cases h)
theorem seqI_ob (f : Nat → Int64) {p : Nat} (hp : p < 64) : seqI (ob p) f = f p := bq_eq (fun i _ => by
  rw [bq_seqI]
  constructor
  · rintro ⟨q, hq, h, h2⟩; rw [bq_ob p hp q hq] at h; rw [← of_decide_eq_true h]; exact h2
  · intro h; exact ⟨p, hp, by rw [bq_ob p hp p hp]; exact decide_eq_true rfl, h⟩)
theorem or_self64 (x : Int64) : x ||| x = x := bq_ext (fun q _ => by rw [bq_or, Bool.or_self])
theorem z_or (x : Int64) : 0 ||| x = x := bq_ext (fun q _ => by rw [bq_or, bq_0, Bool.false_or])
theorem Pt.op {c : Nat} {a0 a1 a2 : Nat → Int64} {b0 b1 b2 : Bool} (h0 : Pt b0 a0) (h1 : Pt b1 a1) : Pt (opB c b0 b1 b2) (opI c a0 a1 a2) := by
  intro hb p hp
  unfold opB at hb
  unfold opI
  by_cases c1 : c < 48
  · rw [if_pos (show c < 64 by omega)]
    unfold leafI
    by_cases d1 : c < 16
    · rw [if_pos d1]; exact Or.inl rfl
    rw [if_neg d1]
    by_cases d2 : c < 32
    · rw [if_pos d2]; exact Or.inr rfl
    rw [if_neg d2, if_pos c1]
    by_cases d3 : vlN p (c / 4 % 4) = c % 4
    · rw [if_pos d3]; exact Or.inr rfl
    · rw [if_neg d3]; exact Or.inl rfl
  rw [if_neg c1] at hb
  by_cases c2 : c < 64
  · rw [if_pos c2] at hb; cases hb
  rw [if_neg c2] at hb ⊢
  by_cases c3 : c < 96
  · rw [if_pos c3] at hb
    obtain ⟨e1, e0⟩ := (Bool.and_eq_true _ _ ▸ hb : b1 = true ∧ b0 = true)
    by_cases d : c < 80
    · rw [if_pos d]
      rcases h0 e0 p hp with x | x <;> rcases h1 e1 p hp with y | y
      · exact Or.inl (by show a1 p ||| a0 p = 0; rw [x, y, or_self64])
      · exact Or.inr (by show a1 p ||| a0 p = _; rw [x, y, or_0])
      · exact Or.inr (by show a1 p ||| a0 p = _; rw [x, y, z_or])
      · exact Or.inr (by show a1 p ||| a0 p = _; rw [x, y, or_self64])
    · rw [if_neg d, if_pos c3]
      rcases h1 e1 p hp with y | y
      · exact Or.inl (by show seqI (a1 p) a0 = 0; rw [y, seqI_0])
      · show seqI (a1 p) a0 = 0 ∨ seqI (a1 p) a0 = ob p
        rw [y, seqI_ob _ hp]
        exact h0 e0 p hp
  rw [if_neg c3] at hb
  rw [if_neg (show ¬ c < 80 by omega), if_neg c3]
  by_cases c4 : c < 112
  · rw [if_pos c4] at hb; cases hb
  rw [if_neg c4] at hb ⊢
  by_cases c5 : c < 128
  · rw [if_pos c5]
    show (if a0 p = 0 then ob p else 0) = 0 ∨ (if a0 p = 0 then ob p else 0) = ob p
    by_cases d : a0 p = 0
    · rw [if_pos d]; exact Or.inr rfl
    · rw [if_neg d]; exact Or.inl rfl
  · rw [if_neg c5] at hb ⊢
    obtain ⟨e1, e0⟩ := (Bool.and_eq_true _ _ ▸ hb : b1 = true ∧ b0 = true)
    show (if a2 p = 0 then a0 p else a1 p) = 0 ∨ (if a2 p = 0 then a0 p else a1 p) = ob p
    by_cases d : a2 p = 0
    · rw [if_pos d]; exact h0 e0 p hp
    · rw [if_neg d]; exact h1 e1 p hp
theorem Pt.fld (c : Nat → Nat) : ∀ k j, Pt ((fld false opB c k).getD j false) ((Jvm.Pilot.@@N@@.fld zI opI c k).getD j zI) := by
  intro k
  induction k with
  | zero => intro j hb; cases j <;> cases hb
  | succ k ih =>
    intro j
    cases j with
    | zero => exact Pt.op (b2 := (Jvm.Pilot.@@N@@.fld false opB c k).getD 2 false) (ih 0) (ih 1)
    | succ j =>
      show Pt (((Jvm.Pilot.@@N@@.fld false opB c k).drop (ar (c k))).getD j false) (((Jvm.Pilot.@@N@@.fld zI opI c k).drop (ar (c k))).getD j zI)
      rw [List.getD_eq_getElem?_getD, List.getD_eq_getElem?_getD, List.getElem?_drop, List.getElem?_drop, ← List.getD_eq_getElem?_getD, ← List.getD_eq_getElem?_getD]
      exact ih (ar (c k) + j)
theorem prd_ev {l : List Nat} (W : Wf l) (h : prd l = true) {p : Nat} (hp : p < 64) : evI l p = 0 ∨ evI l p = ob p := by
  have h1 := W.pos
  have := Pt.fld (cf l) l.length 0
  rw [show (fld zI opI (cf l) l.length).getD 0 zI = evI l from (eS_hd h1).symm] at this
  exact this h p hp

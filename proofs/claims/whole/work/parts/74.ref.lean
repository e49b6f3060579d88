/-! THE REFERENCE: printing -/
abbrev It : Type := Nat ⊕ Nat
def itv (x : It) : Int32 := match x with
  | Sum.inl x => -(nI x)
  | Sum.inr k => nI k
def ittx (c : Nat → Nat) (x : It) : List Nat := match x with
  | Sum.inl x => [x]
  | Sum.inr k => str c k
def itok (n : Nat) (x : It) : Prop := match x with
  | Sum.inl x => 0 < x ∧ x < 200
  | Sum.inr k => k < n
def ptx (c : Nat → Nat) : List It → List Nat
  | [] => []
  | x :: t => ittx c x ++ ptx c t
/-- an operand in its parentheses -/
def wIt (b : Bool) (k : Nat) (P : List It) : List It := if b then Sum.inl 40 :: Sum.inr k :: Sum.inl 41 :: P else Sum.inr k :: P
theorem ptx_wIt (c : Nat → Nat) (b : Bool) (k : Nat) (P : List It) : ptx c (wIt b k P) = wrS b (str c k) ++ ptx c P := by
  cases b
  · rfl
  · show [40] ++ (str c k ++ ([41] ++ ptx c P)) = (40 :: (str c k ++ [41])) ++ ptx c P
    simp
def PilS (h : Hp) (P : List It) : Prop := gI h 123 21 = nI P.length ∧ Stk itv (gI h 137) P
/-- only the pile changes -/
def PFr (h h1 : Hp) : Prop := Fr (fun a => a = 123 ∨ a = 137) h h1 ∧ ∀ i, i ≠ 21 → gI h1 123 i = gI h 123 i
theorem PFr.rf {h : Hp} : PFr h h := ⟨Fr.rf, fun _ _ => rfl⟩
theorem PFr.tr {h h1 h2 : Hp} (a : PFr h h1) (b : PFr h1 h2) : PFr h h2 := ⟨a.1.tr b.1, fun i x => by rw [b.2 i x, a.2 i x]⟩
theorem PFr.g {h h1 : Hp} (a : PFr h h1) : GFr h h1 := ⟨a.1.wk (fun a x => by unfold gW; omega), fun i x _ => a.2 i x⟩
def PQ (h : Hp) (P : List It) : Unit → Hp → Prop := fun _ h1 => PilS h1 P ∧ PFr h h1
section REF
variable {h : Hp} {G : St}
theorem X10_piles (L : Lay h) {P : List It} (S : PilS h P) (hP : P.length < 1000) (it : It) {x : Int32} (ex : x = itv it) : Tr (f_X10_piles 123 x h) (PQ h (it :: P)) := by
  subst ex
  obtain ⟨s1, s2⟩ := S
  refine Tr.ck (Lo_123 L) (Tr.gp (Lp_123_20 L) ?_)
  rw [s1]
  refine Tr.ca (La_137 L hP) ?_
  rw [nI_clamp (by omega), gI_sI_ne (by decide), s1, nI_1]
  refine Tr.nmx (Tr.ret ⟨⟨by rw [gI_sI, upd_eq]; rfl, ?_⟩, (Fr.sI (Or.inr rfl)).tr (Fr.sI (Or.inl rfl)), fun i hi => by rw [gI_sI, upd_ne hi, gI_sI_ne (by decide)]⟩)
  rw [gI_sI_ne (by decide), gI_sI]
  exact s2.push it
/-- pile one thing and go on -/
theorem X10_pl {α : Type} {Q : α → Hp → Prop} {P : List It} {k : Hp → Option (α × Hp)} (L : Lay h) (S : PilS h P) (hP : P.length < 1000) (it : It) {x : Int32} (ex : x = itv it) (kk : ∀ h1, Lay h1 → PilS h1 (it :: P) → PFr h h1 → Tr (k h1) Q) : Tr (ck h 123 10 (bd (f_X10_piles 123 x h) fun _ h1 => k h1)) Q :=
  Tr.ck (Lo_123 L) (Tr.bd (X10_piles L S hP it ex) (fun _ h1 q => kk h1 (q.2.1.lay L) q.1 q.2))
theorem X10_pilesOperand (L : Lay h) {P : List It} (S : PilS h P) (hP : P.length < 900) (k : Nat) (b : Bool) : Tr (f_X10_pilesOperand 123 (nI k) (bi b) h) (PQ h (wIt b k P)) := by
  cases b with
  | false =>
    refine Tr.pos rfl (Tr.ck (Lo_123 L) (Tr.bd (X10_piles L S (by omega) (Sum.inr k) rfl) (fun _ h1 q => Tr.pos rfl (Tr.ret q))))
  | true =>
    refine Tr.neg (by decide) (X10_pl L S (by omega) (Sum.inl 41) rfl (fun h1 L1 S1 F1 => ?_))
    refine Tr.ck (Lo_123 L1) (Tr.bd (X10_piles L1 S1 (by rw [List.length_cons]; omega) (Sum.inr k) rfl) (fun _ h2 q => Tr.neg (by decide) ?_))
    refine X10_pl (q.2.1.lay L1) q.1 (by rw [List.length_cons, List.length_cons]; omega) (Sum.inl 40) rfl (fun h3 L3 S3 F3 => Tr.ret ⟨S3, (F1.tr q.2).tr F3⟩)
theorem X10_po {α : Type} {Q : α → Hp → Prop} {P : List It} {k : Hp → Option (α × Hp)} (L : Lay h) (S : PilS h P) (hP : P.length < 900) (m : Nat) (b : Bool) (kk : ∀ h1, Lay h1 → PilS h1 (wIt b m P) → PFr h h1 → Tr (k h1) Q) : Tr (ck h 123 10 (bd (f_X10_pilesOperand 123 (nI m) (bi b) h) fun _ h1 => k h1)) Q :=
  Tr.ck (Lo_123 L) (Tr.bd (X10_pilesOperand L S hP m b) (fun _ h1 q => kk h1 (q.2.1.lay L) q.1 q.2))
/-- what has been shown -/
def ShS (h : Hp) (d : List Nat) : Prop := gI h 123 23 = nI d.length ∧ ∀ i, i < d.length → gI h 138 i = nI (d.getD i 0)
def SFr (h h1 : Hp) : Prop := Fr (fun a => a = 123 ∨ a = 138) h h1 ∧ ∀ i, i ≠ 23 → gI h1 123 i = gI h 123 i
theorem SFr.tr {h h1 h2 : Hp} (a : SFr h h1) (b : SFr h1 h2) : SFr h h2 := ⟨a.1.tr b.1, fun i x => by rw [b.2 i x, a.2 i x]⟩
theorem SFr.g {h h1 : Hp} (a : SFr h h1) : GFr h h1 := ⟨a.1.wk (fun a x => by unfold gW; omega), fun i _ x => a.2 i x⟩
theorem X10_shows (L : Lay h) {d : List Nat} (S : ShS h d) (hd : d.length < 1000) (x : Nat) : Tr (f_X10_shows 123 (nI x) h) (fun _ h1 => ShS h1 (d ++ [x]) ∧ SFr h h1) := by
  obtain ⟨s1, s2⟩ := S
  refine Tr.ck (Lo_123 L) (Tr.gp (Lp_123_22 L) ?_)
  rw [s1]
  refine Tr.ca (La_138 L hd) ?_
  rw [nI_clamp (by omega), gI_sI_ne (by decide), s1, nI_1]
  refine Tr.nmx (Tr.ret ⟨⟨by rw [gI_sI, upd_eq, List.length_append, List.length_singleton], fun i hi => ?_⟩, (Fr.sI (Or.inr rfl)).tr (Fr.sI (Or.inl rfl)), fun i hi => by rw [gI_sI, upd_ne hi, gI_sI_ne (by decide)]⟩)
  rw [List.length_append, List.length_singleton] at hi
  rw [gI_sI_ne (by decide), gI_sI]
  have e1 : (d ++ [x]).getD i 0 = if i = d.length then x else d.getD i 0 := by
    by_cases c : i = d.length
    · subst c; rw [if_pos rfl]; exact cf_snoc
    · rw [if_neg c]; exact cf_app_l (l := d) (m := [x]) (by omega)
  rw [e1]
  by_cases c : i = d.length
  · subst c; rw [upd_eq, if_pos rfl]
  · rw [upd_ne c, if_neg c]; exact s2 i (by omega)
theorem SFr.pil {h h1 : Hp} {P : List It} (F : SFr h h1) (S : PilS h P) : PilS h1 P := ⟨by rw [F.2 21 (by decide)]; exact S.1, by rw [F.1.I (by decide)]; exact S.2⟩
theorem PFr.sh {h h1 : Hp} {d : List Nat} (F : PFr h h1) (S : ShS h d) : ShS h1 d := ⟨by rw [F.2 23 (by decide)]; exact S.1, by rw [F.1.I (by decide)]; exact S.2⟩
theorem SFr.op {h h1 : Hp} {c : Nat → Nat} {n : Nat} (F : SFr h h1) (O : OpA h c n) : OpA h1 c n := fun m hm => by
  rw [F.1.I (by decide), F.1.I (by decide), F.1.I (by decide)]; exact O m hm
theorem PFr.op {h h1 : Hp} {c : Nat → Nat} {n : Nat} (F : PFr h h1) (O : OpA h c n) : OpA h1 c n := fun m hm => by
  rw [F.1.I (by decide), F.1.I (by decide), F.1.I (by decide)]; exact O m hm
end REF

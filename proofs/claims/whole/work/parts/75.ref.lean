/-! THE REFERENCE: a node of the pile -/
def sgV (c : Nat → Nat) (m j : Nat) : Int32 := if j < ar (c m) then nI (sg (c (opj c m (ar (c m) - 1 - j)))) else -1
theorem sg_k {c : Nat} (h : vcd c = true) : ((nI (sg c) = 50) ↔ c / 16 = 4) ∧ ((nI (sg c) = 51) ↔ c / 16 = 5) ∧ ((nI (sg c) = 53) ↔ c / 16 = 7) := by
  have e : ∀ g, g < 60 → nI (sg c) = nI g → sg c = g := fun g hg z => (nI_eq (by have := sg_lt h; omega) (by omega)).mp z
  have hlt := sg_lt h
  refine ⟨⟨fun z => ?_, fun z => ?_⟩, ⟨fun z => ?_, fun z => ?_⟩, ⟨fun z => ?_, fun z => ?_⟩⟩
  · have := e 50 (by decide) z
    rcases vcd_sg h with ⟨ec, eg⟩ | ⟨ec, eg⟩ | ⟨ec, ed, eg⟩ | ⟨ec, ed, eg⟩ | ⟨ec, eg⟩ | ⟨ec, eg⟩ | ⟨ec, eg⟩ | ⟨ec, eg⟩ | ⟨ec, eg⟩ <;> omega
  · have : sg c = 50 := by rcases vcd_sg h with ⟨ec, eg⟩ | ⟨ec, eg⟩ | ⟨ec, ed, eg⟩ | ⟨ec, ed, eg⟩ | ⟨ec, eg⟩ | ⟨ec, eg⟩ | ⟨ec, eg⟩ | ⟨ec, eg⟩ | ⟨ec, eg⟩ <;> omega
    rw [this]; rfl
  · have := e 51 (by decide) z
    rcases vcd_sg h with ⟨ec, eg⟩ | ⟨ec, eg⟩ | ⟨ec, ed, eg⟩ | ⟨ec, ed, eg⟩ | ⟨ec, eg⟩ | ⟨ec, eg⟩ | ⟨ec, eg⟩ | ⟨ec, eg⟩ | ⟨ec, eg⟩ <;> omega
  · have : sg c = 51 := by rcases vcd_sg h with ⟨ec, eg⟩ | ⟨ec, eg⟩ | ⟨ec, ed, eg⟩ | ⟨ec, ed, eg⟩ | ⟨ec, eg⟩ | ⟨ec, eg⟩ | ⟨ec, eg⟩ | ⟨ec, eg⟩ | ⟨ec, eg⟩ <;> omega
    rw [this]; rfl
  · have := e 53 (by decide) z
    rcases vcd_sg h with ⟨ec, eg⟩ | ⟨ec, eg⟩ | ⟨ec, ed, eg⟩ | ⟨ec, ed, eg⟩ | ⟨ec, eg⟩ | ⟨ec, eg⟩ | ⟨ec, eg⟩ | ⟨ec, eg⟩ | ⟨ec, eg⟩ <;> omega
  · have : sg c = 53 := by rcases vcd_sg h with ⟨ec, eg⟩ | ⟨ec, eg⟩ | ⟨ec, ed, eg⟩ | ⟨ec, ed, eg⟩ | ⟨ec, eg⟩ | ⟨ec, eg⟩ | ⟨ec, eg⟩ | ⟨ec, eg⟩ | ⟨ec, eg⟩ <;> omega
    rw [this]; rfl
/-- after a node of the pile has been taken -/
def XQ (h : Hp) (c : Nat → Nat) (n k : Nat) (P : List It) (d : List Nat) : Unit → Hp → Prop := fun _ h1 => GFr h h1 ∧ OpA h1 c n ∧ ∃ P' d', PilS h1 P' ∧ ShS h1 d' ∧ d' ++ ptx c P' = d ++ (str c k ++ ptx c P) ∧ (∀ x ∈ P', itok n x) ∧ 2 * (ptx c P').length + P.length + 1 < 2 * ((str c k).length + (ptx c P).length) + P'.length
section REF
variable {h : Hp} {G : St} {c : Nat → Nat} {n k : Nat} {P : List It} {d : List Nat}
/-- a leaf is shown -/
theorem XQ.leaf {h1 : Hp} {s : List Nat} (F : SFr h h1) (S : PilS h P) (O : OpA h c n) (ok : ∀ x ∈ P, itok n x) (D : ShS h1 (d ++ s)) (e : str c k = s) (hs : 0 < s.length) : XQ h c n k P d () h1 := by
  subst e
  exact ⟨F.g, F.op O, P, d ++ str c k, F.pil S, D, by rw [List.append_assoc], ok, by omega⟩
/-- an inner node is put onto the pile -/
theorem XQ.inn {h1 : Hp} {P' : List It} (F : PFr h h1) (D : ShS h d) (O : OpA h c n) (S : PilS h1 P') (e : ptx c P' = str c k ++ ptx c P) (ok : ∀ x ∈ P', itok n x) (hl : P.length + 2 ≤ P'.length) : XQ h c n k P d () h1 := by
  refine ⟨F.g, F.op O, P', d, S, F.sh D, by rw [e], ok, ?_⟩
  rw [e, List.length_append]; omega
theorem wIt_len (b : Bool) (k : Nat) (P : List It) : P.length + 1 ≤ (wIt b k P).length ∧ (wIt b k P).length ≤ P.length + 3 := by
  cases b
  · show _ ≤ (_ :: P).length ∧ (_ :: P).length ≤ _
    rw [List.length_cons]; omega
  · show _ ≤ (_ :: _ :: _ :: P).length ∧ (_ :: _ :: _ :: P).length ≤ _
    rw [List.length_cons, List.length_cons, List.length_cons]; omega
theorem wIt_ok {b : Bool} {m : Nat} (hm : m < n) (ok : ∀ x ∈ P, itok n x) : ∀ x ∈ wIt b m P, itok n x := by
  intro x hx
  cases b with
  | false =>
    rcases List.mem_cons.mp hx with e | e
    · rw [e]; exact hm
    · exact ok x e
  | true =>
    rcases List.mem_cons.mp hx with e | e
    · rw [e]; exact ⟨by decide, by decide⟩
    · rcases List.mem_cons.mp e with e | e
      · rw [e]; exact hm
      · rcases List.mem_cons.mp e with e | e
        · rw [e]; exact ⟨by decide, by decide⟩
        · exact ok x e
theorem it_ok {y : It} (hy : itok n y) (ok : ∀ x ∈ P, itok n x) : ∀ x ∈ y :: P, itok n x := by
  intro x hx
  rcases List.mem_cons.mp hx with e | e
  · rw [e]; exact hy
  · exact ok x e
theorem X10_x128 (L : Lay h) {m g ch : Nat} (hm : m < 2 ^ 30) {d0 : List Nat} (D : ShS h d0) (hd : d0.length < 900) {Q : Unit → Hp → Prop} (fin : ∀ h1, ShS h1 (d0 ++ [ch] ++ [48 + m % 4]) → SFr h h1 → Q () h1) : Tr (f_X10_expands_128 123 (nI m) 123 (nI ch) h) Q := by
  refine Tr.ck (Lo_123 L) (Tr.bd (X10_shows L D (by omega) ch) (fun _ h1 q => ?_))
  have L1 := q.2.1.lay L
  have e : (48 : Int32) + (nI m - nI m / (4 : Int32) * (4 : Int32)) = nI (48 + m % 4) := by
    rw [show (4 : Int32) = nI 4 from rfl, pk_div (by omega) (by omega) (by omega), pk_mul, pk_sub (by omega), show (48 : Int32) = nI 48 from rfl, nI_add]
    congr 1; omega
  rw [e]
  exact Tr.ck (Lo_123 L1) (Tr.bd (X10_shows L1 q.1 (by rw [List.length_append, List.length_singleton]; omega) _) (fun _ h2 q2 => Tr.ret (fin _ q2.1 (q.2.tr q2.2))))
theorem X10_x170 (L : Lay h) (hk : k < 60) {o0 o1 : Nat} {b : Bool} (S : PilS h P) (hP : P.length < 800) (e0 : gI h 134 k = nI o1) : Tr (f_X10_expands_170 123 (nI k) 123 (nI o0) (bi b) h) (PQ h (Sum.inr o1 :: Sum.inl 43 :: wIt b o0 P)) := by
  have wl := wIt_len b o0 P
  refine X10_po L S (by omega) o0 b (fun h1 L1 S1 F1 => X10_pl L1 S1 (by omega) (Sum.inl 43) rfl (fun h2 L2 S2 F2 => ?_))
  refine Tr.ck (Lo_123 L2) (Tr.gp (Lp_123_17 L2) (Tr.ca (La_134 L2 hk) ?_))
  have e : gI h2 134 (nI k).toNatClampNeg = itv (Sum.inr o1) := by
    rw [nI_clamp (by omega), F2.1.I (by decide), F1.1.I (by decide)]; exact e0
  refine Tr.bd (X10_piles L2 S2 (by rw [List.length_cons]; omega) (Sum.inr o1) e) (fun _ h3 q => Tr.ret ⟨q.1, (F1.tr F2).tr q.2⟩)
theorem X10_x224 (L : Lay h) (hk : k < 60) {o0 o1 : Nat} {b : Bool} {l4 : Int32} (S : PilS h P) (hP : P.length < 800) (e0 : gI h 134 k = nI o1) : Tr (f_X10_expands_224 123 (nI k) l4 123 (nI o0) (bi b) h) (PQ h (wIt (decide (l4 = 50)) o1 (Sum.inl 46 :: wIt b o0 P))) := by
  have wl := wIt_len b o0 P
  refine X10_po L S (by omega) o0 b (fun h1 L1 S1 F1 => X10_pl L1 S1 (by omega) (Sum.inl 46) rfl (fun h2 L2 S2 F2 => ?_))
  refine Tr.ck (Lo_123 L2) (Tr.gp (Lp_123_17 L2) (Tr.ca (La_134 L2 hk) ?_))
  have e : gI h2 134 (nI k).toNatClampNeg = nI o1 := by
    rw [nI_clamp (by omega), F2.1.I (by decide), F1.1.I (by decide)]; exact e0
  rw [e]
  have hl : (Sum.inl 46 :: wIt b o0 P : List It).length < 900 := by rw [List.length_cons]; omega
  by_cases c4 : l4 = 50
  · rw [decide_eq_true c4]
    exact Tr.pos c4 (X10_po L2 S2 hl o1 true (fun h3 L3 S3 F3 => Tr.ret ⟨S3, (F1.tr F2).tr F3⟩))
  · rw [decide_eq_false c4]
    exact Tr.neg c4 (X10_po L2 S2 hl o1 false (fun h3 L3 S3 F3 => Tr.ret ⟨S3, (F1.tr F2).tr F3⟩))
theorem ndj_64_1 (e : c k = 64) : ndj c k 1 = false := by unfold ndj ndK; rw [e]; rfl
theorem ndj_64_0 (e : c k = 64) : ndj c k 0 = (c (opj c k 0) / 16 == 4) := by unfold ndj ndK; rw [e]; rfl
theorem ndj_80_1 (e : c k = 80) : ndj c k 1 = (c (opj c k 1) / 16 == 4) := by unfold ndj ndK; rw [e]; show (_ || (false && _)) = _; rw [Bool.false_and, Bool.or_false]
theorem ndj_80_0 (e : c k = 80) : ndj c k 0 = (c (opj c k 0) / 16 == 4 || c (opj c k 0) / 16 == 5) := by unfold ndj ndK; rw [e]; rfl
theorem ndj_96 (e : c k = 96) : ndj c k 0 = (c (opj c k 0) / 16 == 4 || c (opj c k 0) / 16 == 5 || c (opj c k 0) / 16 == 7) := by unfold ndj ndK; rw [e]; rfl
theorem ndj_112 (e : c k = 112) : ndj c k 0 = (c (opj c k 0) / 16 == 4 || c (opj c k 0) / 16 == 5) := by unfold ndj ndK; rw [e]; rfl
theorem ndj_128 (e : c k = 128) (i : Nat) : ndj c k i = false := by unfold ndj ndK; rw [e]; rfl
theorem X10_x59 (L : Lay h) (hv : ∀ j, vcd (c j) = true) (okk : ar (c k) ≤ (rt c k).length) (hk : k < n) (hn : n ≤ 60) (O : OpA h c n) (S : PilS h P) (hP : P.length < 800) (D : ShS h d) (hd : d.length < 800) (ok : ∀ x ∈ P, itok n x) : Tr (f_X10_expands_59 123 (nI k) (nI (sg (c k))) (sgV c k 0) (sgV c k 1) h) (XQ h c n k P d) := by
  have sh1 : ∀ (x : Nat) (h : Hp), Lay h → ∀ d0, ShS h d0 → d0.length < 900 → Tr (f_X10_shows 123 (nI x) h) (fun _ h1 => ShS h1 (d0 ++ [x]) ∧ SFr h h1) := fun x h L d0 D hd => X10_shows L D (by omega) x
  have hj : ∀ i, i < ar (c k) → opj c k i < n := fun i hi => by have := opj_lt (c := c) (k := k) (i := i) (by omega); omega
  have v0 := (O k hk).1
  have v1 := (O k hk).2.1
  have v2 := (O k hk).2.2
  rcases vcd_sg (hv k) with ⟨ec, eg⟩ | ⟨ec, eg⟩ | ⟨ec, ed, eg⟩ | ⟨ec, ed, eg⟩ | ⟨ec, eg⟩ | ⟨ec, eg⟩ | ⟨ec, eg⟩ | ⟨ec, eg⟩ | ⟨ec, eg⟩
  · rw [eg]
    refine Tr.neg (by decide) (Tr.ck (Lo_123 L) (Tr.bd (sh1 48 h L d D (by omega)) (fun _ h1 q => Tr.ret (XQ.leaf q.2 S O ok q.1 ?_ (by decide)))))
    rw [str_lf (by omega), if_pos (by omega), ec]
  · rw [eg]
    refine Tr.neg (by decide) (Tr.ck (Lo_123 L) (Tr.bd (sh1 49 h L d D (by omega)) (fun _ h1 q => Tr.ret (XQ.leaf q.2 S O ok q.1 ?_ (by decide)))))
    rw [str_lf (by omega), if_pos (by omega), ec]
  · rw [eg]
    have es : nI (c k - 22) - (10 : Int32) = nI (c k - 32) := pk_sub (a := c k - 22) (b := 10) (by omega)
    refine Tr.pos (nI_le (a := 10) (by omega) (by omega)) (Tr.neg (nI_ge (b := 50) (by omega) (by decide)) (Tr.neg (nI_ge (b := 30) (by omega) (by decide)) ?_))
    rw [es]
    have e1 : (120 : Int32) + nI (c k - 32) / (4 : Int32) = nI (120 + c k / 4 % 4) := by
      rw [show (4 : Int32) = nI 4 from rfl, pk_div (by omega) (by omega) (by omega), show (120 : Int32) = nI 120 from rfl, nI_add]; congr 1; omega
    refine Tr.ck (Lo_123 L) ?_
    rw [e1]
    refine Tr.bd (sh1 _ h L d D (by omega)) (fun _ h1 q => Tr.neg (nI_ge (b := 30) (by omega) (by decide)) ?_)
    refine X10_x128 (q.2.1.lay L) (g := 0) (ch := 61) (by omega) q.1 (by rw [List.length_append, List.length_singleton]; omega) (fun h2 D2 F2 => XQ.leaf (s := [120 + c k / 4 % 4, 61, 48 + c k % 4]) (q.2.tr F2) S O ok ?_ ?_ (Nat.succ_pos _))
    · have : d ++ [120 + c k / 4 % 4] ++ [61] ++ [48 + (c k - 32) % 4] = d ++ [120 + c k / 4 % 4, 61, 48 + c k % 4] := by
        rw [show (c k - 32) % 4 = c k % 4 by omega]; simp
      rw [← this]; exact D2
    · rw [str_lf (by omega), if_neg (by omega), if_pos (by omega)]
  · rw [eg]
    have es : nI (c k - 18) - (30 : Int32) = nI (c k - 48) := pk_sub (a := c k - 18) (b := 30) (by omega)
    refine Tr.pos (nI_le (a := 10) (by omega) (by omega)) (Tr.neg (nI_ge (b := 50) (by omega) (by decide)) (Tr.pos (nI_le (a := 30) (by omega) (by omega)) ?_))
    rw [es]
    have e1 : (120 : Int32) + nI (c k - 48) / (4 : Int32) = nI (120 + c k / 4 % 4) := by
      rw [show (4 : Int32) = nI 4 from rfl, pk_div (by omega) (by omega) (by omega), show (120 : Int32) = nI 120 from rfl, nI_add]; congr 1; omega
    refine Tr.ck (Lo_123 L) ?_
    rw [e1]
    refine Tr.bd (sh1 _ h L d D (by omega)) (fun _ h1 q => Tr.pos (nI_le (a := 30) (by omega) (by omega)) ?_)
    refine X10_x128 (q.2.1.lay L) (g := 0) (ch := 58) (by omega) q.1 (by rw [List.length_append, List.length_singleton]; omega) (fun h2 D2 F2 => XQ.leaf (s := [120 + c k / 4 % 4, 58, 48 + c k % 4]) (q.2.tr F2) S O ok ?_ ?_ (Nat.succ_pos _))
    · have : d ++ [120 + c k / 4 % 4] ++ [58] ++ [48 + (c k - 48) % 4] = d ++ [120 + c k / 4 % 4, 58, 48 + c k % 4] := by
        rw [show (c k - 48) % 4 = c k % 4 by omega]; simp
      rw [← this]; exact D2
    · rw [str_lf (by omega), if_neg (by omega), if_neg (by omega)]
  · have a2 : ar (c k) = 2 := by rw [ec]; rfl
    have w0 : opV c k 0 = nI (opj c k 1) := by unfold opV; rw [a2]; rfl
    have w1 : opV c k 1 = nI (opj c k 0) := by unfold opV; rw [a2]; rfl
    have g1 : sgV c k 1 = nI (sg (c (opj c k 0))) := by unfold sgV; rw [a2]; rfl
    rw [w0] at v0
    rw [w1] at v1
    have kk := (sg_k (hv (opj c k 0))).1
    rw [eg, g1]
    refine Tr.pos (by decide) (Tr.pos (by decide) (Tr.pos (by decide) (Tr.ck (Lo_123 L) (Tr.gp (Lp_123_18 L) (Tr.ca (La_135 L (by omega)) ?_)))))
    rw [nI_clamp (by omega), v1]
    have fin : ∀ b h1, b = ndj c k 0 → PQ h (Sum.inr (opj c k 1) :: Sum.inl 43 :: wIt b (opj c k 0) P) () h1 → XQ h c n k P d () h1 := by
      intro b h1 eb q
      subst eb
      have wl := wIt_len (ndj c k 0) (opj c k 0) P
      refine XQ.inn q.2 D O q.1 ?_ (it_ok (hj 1 (by omega)) (it_ok ⟨by decide, by decide⟩ (wIt_ok (hj 0 (by omega)) ok))) (by rw [List.length_cons, List.length_cons]; omega)
      rw [str_64 ec okk]
      unfold pw
      rw [ndj_64_1 ec]
      show str c (opj c k 1) ++ ([43] ++ ptx c (wIt _ _ P)) = _
      rw [ptx_wIt]
      show _ = (str c (opj c k 1) ++ 43 :: _) ++ _
      simp
    by_cases cc : nI (sg (c (opj c k 0))) = 50
    · refine Tr.pos cc (Tr.imp (X10_x170 (b := true) L (by omega) S hP v0) (fun _ h1 q => fin true h1 ?_ q))
      rw [ndj_64_0 ec]; exact (beq_iff_eq.mpr (kk.mp cc)).symm
    · refine Tr.neg cc (Tr.imp (X10_x170 (b := false) L (by omega) S hP v0) (fun _ h1 q => fin false h1 ?_ q))
      rw [ndj_64_0 ec]
      cases hb : (c (opj c k 0) / 16 == 4) with
      | false => rfl
      | true => exact absurd (kk.mpr (beq_iff_eq.mp hb)) cc
  · have a2 : ar (c k) = 2 := by rw [ec]; rfl
    have w0 : opV c k 0 = nI (opj c k 1) := by unfold opV; rw [a2]; rfl
    have w1 : opV c k 1 = nI (opj c k 0) := by unfold opV; rw [a2]; rfl
    have g0 : sgV c k 0 = nI (sg (c (opj c k 1))) := by unfold sgV; rw [a2]; rfl
    have g1 : sgV c k 1 = nI (sg (c (opj c k 0))) := by unfold sgV; rw [a2]; rfl
    rw [w0] at v0
    rw [w1] at v1
    have kk := sg_k (hv (opj c k 0))
    have kk1 := (sg_k (hv (opj c k 1))).1
    rw [eg, g1, g0]
    refine Tr.pos (by decide) (Tr.pos (by decide) (Tr.neg (by decide) (Tr.pos (by decide) (Tr.ck (Lo_123 L) (Tr.gp (Lp_123_18 L) (Tr.ca (La_135 L (by omega)) ?_))))))
    rw [nI_clamp (by omega), v1]
    have fin : ∀ b h1, b = ndj c k 0 → PQ h (wIt (decide (nI (sg (c (opj c k 1))) = 50)) (opj c k 1) (Sum.inl 46 :: wIt b (opj c k 0) P)) () h1 → XQ h c n k P d () h1 := by
      intro b h1 eb q
      have e1 : decide (nI (sg (c (opj c k 1))) = 50) = ndj c k 1 := by
        rw [ndj_80_1 ec]
        cases hb : (c (opj c k 1) / 16 == 4) with
        | false => exact decide_eq_false (fun z => by rw [beq_iff_eq.mpr (kk1.mp z)] at hb; cases hb)
        | true => exact decide_eq_true (kk1.mpr (beq_iff_eq.mp hb))
      rw [e1] at q
      subst eb
      have wl := wIt_len (ndj c k 0) (opj c k 0) P
      have wl2 := wIt_len (ndj c k 1) (opj c k 1) (Sum.inl 46 :: wIt (ndj c k 0) (opj c k 0) P)
      rw [List.length_cons] at wl2
      refine XQ.inn q.2 D O q.1 ?_ (wIt_ok (hj 1 (by omega)) (it_ok ⟨by decide, by decide⟩ (wIt_ok (hj 0 (by omega)) ok))) (by omega)
      rw [str_80 ec okk, ptx_wIt]
      unfold pw
      show _ ++ ([46] ++ ptx c (wIt _ _ P)) = _
      rw [ptx_wIt]
      simp
    by_cases cc : nI (sg (c (opj c k 0))) = 50
    · refine Tr.pos cc (Tr.imp (X10_x224 (b := true) L (by omega) S hP v0) (fun _ h1 q => fin true h1 ?_ q))
      rw [ndj_80_0 ec, beq_iff_eq.mpr (kk.1.mp cc)]; rfl
    · by_cases c5 : nI (sg (c (opj c k 0))) = 51
      · refine Tr.neg cc (Tr.pos c5 (Tr.imp (X10_x224 (b := true) L (by omega) S hP v0) (fun _ h1 q => fin true h1 ?_ q)))
        rw [ndj_80_0 ec, beq_iff_eq.mpr (kk.2.1.mp c5), Bool.or_true]
      · refine Tr.neg cc (Tr.neg c5 (Tr.imp (X10_x224 (b := false) L (by omega) S hP v0) (fun _ h1 q => fin false h1 ?_ q)))
        rw [ndj_80_0 ec, beq_false_of_ne (fun z => cc (kk.1.mpr z)), beq_false_of_ne (fun z => c5 (kk.2.1.mpr z))]; rfl
  · have a2 : ar (c k) = 1 := by rw [ec]; rfl
    have w0 : opV c k 0 = nI (opj c k 0) := by unfold opV; rw [a2]; rfl
    have g0 : sgV c k 0 = nI (sg (c (opj c k 0))) := by unfold sgV; rw [a2]; rfl
    rw [w0] at v0
    have kk := sg_k (hv (opj c k 0))
    rw [eg, g0]
    refine Tr.pos (by decide) (Tr.pos (by decide) (Tr.neg (by decide) (Tr.neg (by decide) (Tr.pos (by decide) (X10_pl L S (by omega) (Sum.inl 42) rfl (fun h1 L1 S1 F1 => Tr.ck (Lo_123 L1) (Tr.gp (Lp_123_17 L1) (Tr.ca (La_134 L1 (by omega)) ?_))))))))
    rw [nI_clamp (by omega), F1.1.I (by decide), v0]
    have hl : (Sum.inl 42 :: P : List It).length < 900 := by rw [List.length_cons]; omega
    have fin : ∀ b, b = ndj c k 0 → Tr (f_X10_expands_303 123 (nI (opj c k 0)) (bi b) h1) (XQ h c n k P d) := by
      intro b eb
      subst eb
      refine X10_po L1 S1 hl _ _ (fun h2 L2 S2 F2 => Tr.ret ?_)
      have wl := wIt_len (ndj c k 0) (opj c k 0) (Sum.inl 42 :: P)
      rw [List.length_cons] at wl
      refine XQ.inn (F1.tr F2) D O S2 ?_ (wIt_ok (hj 0 (by omega)) (it_ok ⟨by decide, by decide⟩ ok)) (by omega)
      rw [str_96 ec okk, ptx_wIt]
      unfold pw
      show _ ++ ([42] ++ ptx c P) = _
      simp
    by_cases cc : nI (sg (c (opj c k 0))) = 50
    · exact Tr.pos cc (fin true (by rw [ndj_96 ec, beq_iff_eq.mpr (kk.1.mp cc)]; rfl))
    · by_cases c5 : nI (sg (c (opj c k 0))) = 51
      · exact Tr.neg cc (Tr.pos c5 (fin true (by rw [ndj_96 ec, beq_iff_eq.mpr (kk.2.1.mp c5), Bool.or_true]; rfl)))
      · by_cases c7 : nI (sg (c (opj c k 0))) = 53
        · exact Tr.neg cc (Tr.neg c5 (Tr.pos c7 (fin true (by rw [ndj_96 ec, beq_iff_eq.mpr (kk.2.2.mp c7), Bool.or_true]))))
        · exact Tr.neg cc (Tr.neg c5 (Tr.neg c7 (fin false (by rw [ndj_96 ec, beq_false_of_ne (fun z => cc (kk.1.mpr z)), beq_false_of_ne (fun z => c5 (kk.2.1.mpr z)), beq_false_of_ne (fun z => c7 (kk.2.2.mpr z))]; rfl))))
  · have a2 : ar (c k) = 1 := by rw [ec]; rfl
    have w0 : opV c k 0 = nI (opj c k 0) := by unfold opV; rw [a2]; rfl
    have g0 : sgV c k 0 = nI (sg (c (opj c k 0))) := by unfold sgV; rw [a2]; rfl
    rw [w0] at v0
    have kk := sg_k (hv (opj c k 0))
    rw [eg, g0]
    refine Tr.pos (by decide) (Tr.pos (by decide) (Tr.neg (by decide) (Tr.neg (by decide) (Tr.neg (by decide) (Tr.pos (by decide) (Tr.ck (Lo_123 L) (Tr.gp (Lp_123_17 L) (Tr.ca (La_134 L (by omega)) ?_))))))))
    rw [nI_clamp (by omega), v0]
    have fin : ∀ b, b = ndj c k 0 → Tr (f_X10_expands_341 123 123 (nI (opj c k 0)) (bi b) h) (XQ h c n k P d) := by
      intro b eb
      subst eb
      have wl := wIt_len (ndj c k 0) (opj c k 0) P
      refine X10_po L S (by omega) _ _ (fun h1 L1 S1 F1 => X10_pl L1 S1 (by omega) (Sum.inl 33) rfl (fun h2 L2 S2 F2 => Tr.ret ?_))
      refine XQ.inn (F1.tr F2) D O S2 ?_ (it_ok ⟨by decide, by decide⟩ (wIt_ok (hj 0 (by omega)) ok)) (by rw [List.length_cons]; omega)
      rw [str_112 ec okk]
      unfold pw
      show [33] ++ ptx c (wIt _ _ P) = _
      rw [ptx_wIt]
      simp
    by_cases cc : nI (sg (c (opj c k 0))) = 50
    · exact Tr.pos cc (fin true (by rw [ndj_112 ec, beq_iff_eq.mpr (kk.1.mp cc)]; rfl))
    · by_cases c5 : nI (sg (c (opj c k 0))) = 51
      · exact Tr.neg cc (Tr.pos c5 (fin true (by rw [ndj_112 ec, beq_iff_eq.mpr (kk.2.1.mp c5), Bool.or_true])))
      · exact Tr.neg cc (Tr.neg c5 (fin false (by rw [ndj_112 ec, beq_false_of_ne (fun z => cc (kk.1.mpr z)), beq_false_of_ne (fun z => c5 (kk.2.1.mpr z))]; rfl)))
  · have a2 : ar (c k) = 3 := by rw [ec]; rfl
    have w0 : opV c k 0 = nI (opj c k 2) := by unfold opV; rw [a2]; rfl
    have w1 : opV c k 1 = nI (opj c k 1) := by unfold opV; rw [a2]; rfl
    have w2 : opV c k 2 = nI (opj c k 0) := by unfold opV; rw [a2]; rfl
    rw [w0] at v0
    rw [w1] at v1
    rw [w2] at v2
    rw [eg]
    refine Tr.pos (by decide) (Tr.pos (by decide) (Tr.neg (by decide) (Tr.neg (by decide) (Tr.neg (by decide) (Tr.neg (by decide) (X10_pl L S (by omega) (Sum.inl 93) rfl (fun h1 L1 S1 F1 => Tr.ck (Lo_123 L1) (Tr.gp (Lp_123_19 L1) (Tr.ca (La_136 L1 (by omega)) ?_)))))))))
    have e2 : gI h1 136 (nI k).toNatClampNeg = itv (Sum.inr (opj c k 0)) := by rw [nI_clamp (by omega), F1.1.I (by decide)]; exact v2
    refine Tr.bd (X10_piles L1 S1 (by simp only [List.length_cons]; omega) (Sum.inr (opj c k 0)) e2) (fun _ h2 q2 => ?_)
    have L2 := q2.2.1.lay L1
    have F2 := F1.tr q2.2
    refine X10_pl L2 q2.1 (by simp only [List.length_cons]; omega) (Sum.inl 124) rfl (fun h3 L3 S3 F3 => Tr.ck (Lo_123 L3) (Tr.gp (Lp_123_18 L3) (Tr.ca (La_135 L3 (by omega)) ?_)))
    have F3 := F2.tr F3
    have e1 : gI h3 135 (nI k).toNatClampNeg = itv (Sum.inr (opj c k 1)) := by rw [nI_clamp (by omega), F3.1.I (by decide)]; exact v1
    refine Tr.bd (X10_piles L3 S3 (by simp only [List.length_cons]; omega) (Sum.inr (opj c k 1)) e1) (fun _ h4 q4 => ?_)
    have L4 := q4.2.1.lay L3
    have F4 := F3.tr q4.2
    refine X10_pl L4 q4.1 (by simp only [List.length_cons]; omega) (Sum.inl 63) rfl (fun h5 L5 S5 F5 => Tr.ck (Lo_123 L5) (Tr.gp (Lp_123_17 L5) (Tr.ca (La_134 L5 (by omega)) ?_)))
    have F5 := F4.tr F5
    have e0 : gI h5 134 (nI k).toNatClampNeg = itv (Sum.inr (opj c k 2)) := by rw [nI_clamp (by omega), F5.1.I (by decide)]; exact v0
    refine Tr.bd (X10_piles L5 S5 (by simp only [List.length_cons]; omega) (Sum.inr (opj c k 2)) e0) (fun _ h6 q6 => ?_)
    have L6 := q6.2.1.lay L5
    have F6 := F5.tr q6.2
    refine X10_pl L6 q6.1 (by simp only [List.length_cons]; omega) (Sum.inl 91) rfl (fun h7 L7 S7 F7 => Tr.ret ?_)
    refine XQ.inn (F6.tr F7) D O S7 ?_ (it_ok ⟨by decide, by decide⟩ (it_ok (hj 2 (by omega)) (it_ok ⟨by decide, by decide⟩ (it_ok (hj 1 (by omega)) (it_ok ⟨by decide, by decide⟩ (it_ok (hj 0 (by omega)) (it_ok ⟨by decide, by decide⟩ ok))))))) (by simp only [List.length_cons]; omega)
    rw [str_128 ec okk]
    unfold pw
    rw [ndj_128 ec, ndj_128 ec, ndj_128 ec]
    show [91] ++ (str c (opj c k 2) ++ ([63] ++ (str c (opj c k 1) ++ ([124] ++ (str c (opj c k 0) ++ ([93] ++ ptx c P)))))) = (91 :: (str c (opj c k 2) ++ 63 :: (str c (opj c k 1) ++ 124 :: (str c (opj c k 0) ++ [93])))) ++ ptx c P
    simp
end REF

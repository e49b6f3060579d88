section X5
variable {h h0 : Hp} {s : Nat} {l : List Nat} {b : Bool} {Lr Wr F : Nat → Int32} {T v u rst : List Nat} {S : Nat → Prop}
theorem ln1 {u : List Nat} {ch : Nat} : nI u.length + 1 = nI (u ++ [ch]).length := by rw [nI_1, List.length_append]; rfl
theorem PS.nil (p : PS T v h s u rst S) : PS T v h s u (rst ++ []) S := by rw [List.append_nil]; exact p
theorem seg_of {x : List Nat} (e : T = u ++ ((x ++ rst) ++ v)) : Seg T u.length x := ⟨u, rst ++ v, by rw [e, List.append_assoc], rfl⟩
theorem opj_ne {c : Nat → Nat} {k i j : Nat} (hi : i < ar (c k)) (hj : j < ar (c k)) (ok : ar (c k) ≤ (rt c k).length) (hij : i ≠ j) : opj c k i ≠ opj c k j := by
  rw [opj_eq (by omega), opj_eq (by omega)]
  exact fun e => hij (rt_inj _ _ e)
def NodeOut (h h1 : Hp) (s : Nat) (c : Nat → Nat) (m : Nat) (T : List Nat) (S : Nat → Prop) : Prop :=
  ∃ ps : Nat → Nat, (∀ i, i < ar (c m) → gI h1 (43 + 22 * s) (opj c m i) = nI (ps i) ∧ Seg T (ps i) (pw c m i)) ∧ (∀ x, (∀ i, i < ar (c m) → x ≠ opj c m i) → gI h1 (43 + 22 * s) x = gI h (43 + 22 * s) x) ∧ Cor T (gI h1 (40 + 22 * s)) (fun i => S i ∨ ∃ i0, i0 < ar (c m) ∧ Inn (ps i0) (ndj c m i0) (str c (opj c m i0)) i)
theorem out0 {h1 : Hp} {c : Nat → Nat} {m : Nat} (ha : ar (c m) = 0) (p : PS T v h1 s u [] S) (g : gI h1 (43 + 22 * s) = gI h (43 + 22 * s)) : NodeOut h h1 s c m T S := by
  refine ⟨fun _ => 0, fun i hi => by omega, fun x _ => by rw [g], p.2.wk (fun i hi => ?_)⟩
  rcases hi with hi | hi
  · exact Or.inl hi
  · simp only [List.length_nil] at hi; omega
theorem out1 {h1 : Hp} {c : Nat → Nat} {m : Nat} (ha : ar (c m) = 1) {u0 : List Nat} (p : PS T v h1 s u [] (fun i => S i ∨ Inn u0.length (ndj c m 0) (str c (opj c m 0)) i)) (sg : Seg T u0.length (pw c m 0)) (g : gI h1 (43 + 22 * s) = va_up (gI h (43 + 22 * s)) (opj c m 0) (nI u0.length)) : NodeOut h h1 s c m T S := by
  refine ⟨fun _ => u0.length, fun i hi => ?_, fun x hx => by rw [g, upd_ne (hx 0 (by omega))], p.2.wk (fun i hi => ?_)⟩
  · have : i = 0 := by omega
    subst this
    exact ⟨by rw [g, upd_eq], sg⟩
  · rcases hi with (hi | hi) | hi
    · exact Or.inl hi
    · exact Or.inr ⟨0, by omega, hi⟩
    · simp only [List.length_nil] at hi; omega
theorem out2 {h1 : Hp} {c : Nat → Nat} {m : Nat} (ha : ar (c m) = 2) (ok : ar (c m) ≤ (rt c m).length) {u0 u1 : List Nat} (p : PS T v h1 s u [] (fun i => (S i ∨ Inn u1.length (ndj c m 1) (str c (opj c m 1)) i) ∨ Inn u0.length (ndj c m 0) (str c (opj c m 0)) i)) (s1 : Seg T u1.length (pw c m 1)) (s0 : Seg T u0.length (pw c m 0)) (g : gI h1 (43 + 22 * s) = va_up (va_up (gI h (43 + 22 * s)) (opj c m 1) (nI u1.length)) (opj c m 0) (nI u0.length)) : NodeOut h h1 s c m T S := by
  refine ⟨fun i => if i = 0 then u0.length else u1.length, fun i hi => ?_, fun x hx => by rw [g, upd_ne (hx 0 (by omega)), upd_ne (hx 1 (by omega))], p.2.wk (fun i hi => ?_)⟩
  · have : i = 0 ∨ i = 1 := by omega
    rcases this with rfl | rfl
    · exact ⟨by rw [g, upd_eq]; rfl, s0⟩
    · exact ⟨by rw [g, upd_ne (opj_ne (by omega) (by omega) ok (by decide)), upd_eq]; rfl, s1⟩
  · rcases hi with ((hi | hi) | hi) | hi
    · exact Or.inl hi
    · exact Or.inr ⟨1, by omega, hi⟩
    · exact Or.inr ⟨0, by omega, hi⟩
    · simp only [List.length_nil] at hi; omega
theorem out3 {h1 : Hp} {c : Nat → Nat} {m : Nat} (ha : ar (c m) = 3) (ok : ar (c m) ≤ (rt c m).length) {u0 u1 u2 : List Nat} (p : PS T v h1 s u [] (fun i => ((S i ∨ Inn u2.length (ndj c m 2) (str c (opj c m 2)) i) ∨ Inn u1.length (ndj c m 1) (str c (opj c m 1)) i) ∨ Inn u0.length (ndj c m 0) (str c (opj c m 0)) i)) (s2 : Seg T u2.length (pw c m 2)) (s1 : Seg T u1.length (pw c m 1)) (s0 : Seg T u0.length (pw c m 0)) (g : gI h1 (43 + 22 * s) = va_up (va_up (va_up (gI h (43 + 22 * s)) (opj c m 2) (nI u2.length)) (opj c m 1) (nI u1.length)) (opj c m 0) (nI u0.length)) : NodeOut h h1 s c m T S := by
  refine ⟨fun i => if i = 0 then u0.length else if i = 1 then u1.length else u2.length, fun i hi => ?_, fun x hx => by rw [g, upd_ne (hx 0 (by omega)), upd_ne (hx 1 (by omega)), upd_ne (hx 2 (by omega))], p.2.wk (fun i hi => ?_)⟩
  · have : i = 0 ∨ i = 1 ∨ i = 2 := by omega
    rcases this with rfl | rfl | rfl
    · exact ⟨by rw [g, upd_eq]; rfl, s0⟩
    · exact ⟨by rw [g, upd_ne (opj_ne (by omega) (by omega) ok (by decide)), upd_eq]; rfl, s1⟩
    · exact ⟨by rw [g, upd_ne (opj_ne (by omega) (by omega) ok (by decide)), upd_ne (opj_ne (by omega) (by omega) ok (by decide)), upd_eq]; rfl, s2⟩
  · rcases hi with (((hi | hi) | hi) | hi) | hi
    · exact Or.inl hi
    · exact Or.inr ⟨2, by omega, hi⟩
    · exact Or.inr ⟨1, by omega, hi⟩
    · exact Or.inr ⟨0, by omega, hi⟩
    · simp only [List.length_nil] at hi; omega
/-- where a node's own text begins -/
def AtU (h : Hp) (s : Nat) (Wr : Nat → Int32) (m : Nat) (u : List Nat) : Prop := ∃ w p, Wr m = bi w ∧ gI h (43 + 22 * s) m = nI p ∧ p + (if w then 1 else 0) = u.length
theorem AtU.inner (hs : s < 4) (N : NS h0 h s l b Lr Wr F) {m : Nat} (hm : m < 60) (a : AtU h s Wr m u) : f_X5_innerPlace (39 + 22 * s) (nI m) h = some (nI u.length, h) := by
  obtain ⟨w, p, a1, a2, a3⟩ := a
  rw [X5_innerPlace N.1 hs hm (by rw [N.2.2.2.1]; exact a1) a2, a3]
section ND
variable {m : Nat}
theorem X5_leaf {sg : Nat} (hs : s < 4) (N : NS h0 h s l b Lr Wr F) (hm : m < l.length) (h60 : l.length ≤ 60) (hT : T.length ≤ 358) (hA : AtU h s Wr m u) (hc : vcd (cf l m) = true) (c1 : 32 ≤ cf l m) (c2 : cf l m < 64) (p : PS T v h s u [120 + cf l m / 4 % 4, sg, 48 + cf l m % 4] S) : Tr (f_X5_printLeaf (39 + 22 * s) (36 + 22 * s) (nI m) (nI sg) h) (fun _ h1 => NS h0 h1 s l b Lr Wr F ∧ NodeOut h h1 s (cf l) m T S) := by
  refine Tr.ck (Lso_39 N.1 hs) (Tr.be (hA.inner hs N (by omega)) (Tr.ck (Lpo N.1 (PA_s hs)) (Tr.be (X4_fieldAt N.1 (PA_s hs) N.2.1 hm (by omega) (by omega)) (Tr.ck (Lso_39 N.1 hs) ?_))))
  refine Tr.bd (X5_putS hs N (c := (120 : Int32) + nI (cf l m / 4 % 4)) (nI_add 120 _) hT p) (fun _ h1 q => ?_)
  obtain ⟨N1, p1, g1⟩ := q
  rw [ln1]
  refine Tr.ck (Lso_39 N1.1 hs) (Tr.bd (X5_putS hs N1 rfl hT p1) (fun _ h2 q => ?_))
  obtain ⟨N2, p2, g2⟩ := q
  have e2 : nI u.length + 2 = nI (u ++ [120 + cf l m / 4 % 4] ++ [sg]).length := by
    rw [show (2 : Int32) = nI 2 from rfl, nI_add, List.length_append, List.length_append]; rfl
  rw [e2]
  refine Tr.ck (Lpo N2.1 (PA_s hs)) (Tr.be (X4_valueAt N2.1 (PA_s hs) N2.2.1 hm (by omega) (by omega)) (Tr.ck (Lso_39 N2.1 hs) ?_))
  refine Tr.bd (X5_putS hs N2 (c := (48 : Int32) + nI (cf l m % 4)) (nI_add 48 _) hT p2) (fun _ h3 q => Tr.ret ?_)
  obtain ⟨N3, p3, g3⟩ := q
  exact ⟨N3, out0 (if_pos c2) p3 (by rw [g3, g2, g1])⟩
theorem X5_pair {sg : Nat} (hs : s < 4) (N : NS h0 h s l b Lr Wr F) (hm : m < l.length) (h60 : l.length ≤ 60) (ok : ar (cf l m) ≤ (rt (cf l) m).length) (hT : T.length ≤ 358) (hA : AtU h s Wr m u) (hop : ∀ i, i < ar (cf l m) → Wr (opj (cf l) m i) = bi (ndj (cf l) m i) ∧ Lr (opj (cf l) m i) = nI (pw (cf l) m i).length) (ha : ar (cf l m) = 2) (p : PS T v h s u (pw (cf l) m 1 ++ sg :: pw (cf l) m 0) S) : Tr (f_X5_printPair (39 + 22 * s) (36 + 22 * s) (nI m) (nI sg) h) (fun _ h1 => NS h0 h1 s l b Lr Wr F ∧ NodeOut h h1 s (cf l) m T S) := by
  have j0 := opj_lt (c := cf l) (k := m) (i := 0) (by omega)
  have j1 := opj_lt (c := cf l) (k := m) (i := 1) (by omega)
  refine Tr.ck (Lpo N.1 (PA_s hs)) (Tr.be (X4_operandAt N.1 (PA_s hs) N.2.1 (j := 1) (by omega) (by omega) (by omega)) (Tr.ck (Lso_39 N.1 hs) (Tr.be (hA.inner hs N (by omega)) (Tr.ck (Lso_39 N.1 hs) ?_))))
  refine Tr.bd (X5_placed hs N (j := opj (cf l) m 1) (by omega) (hop 1 (by omega)).1 (hop 1 (by omega)).2 hT p) (fun r h1 q => ?_)
  obtain ⟨rfl, N1, p1, g1⟩ := q
  have s1 : Seg T u.length (pw (cf l) m 1) := seg_of p.1
  refine Tr.ck (Lso_39 N1.1 hs) (Tr.bd (X5_putS hs N1 rfl hT p1) (fun _ h2 q => ?_))
  obtain ⟨N2, p2, g2⟩ := q
  rw [ln1]
  refine Tr.ck (Lpo N2.1 (PA_s hs)) (Tr.be (X4_operandAt N2.1 (PA_s hs) N2.2.1 (j := 0) (by omega) (by omega) (by omega)) (Tr.ck (Lso_39 N2.1 hs) ?_))
  have p2' := p2.nil
  refine Tr.bd (X5_placed hs N2 (j := opj (cf l) m 0) (by omega) (hop 0 (by omega)).1 (hop 0 (by omega)).2 hT p2') (fun r h3 q => Tr.ret ?_)
  obtain ⟨_, N3, p3, g3⟩ := q
  exact ⟨N3, out2 ha ok p3 s1 (seg_of p2'.1) (by rw [g3, g2, g1])⟩
theorem X5_choice (hs : s < 4) (N : NS h0 h s l b Lr Wr F) (hm : m < l.length) (h60 : l.length ≤ 60) (ok : ar (cf l m) ≤ (rt (cf l) m).length) (hT : T.length ≤ 358) (hA : AtU h s Wr m u) (hop : ∀ i, i < ar (cf l m) → Wr (opj (cf l) m i) = bi (ndj (cf l) m i) ∧ Lr (opj (cf l) m i) = nI (pw (cf l) m i).length) (ha : ar (cf l m) = 3) (p : PS T v h s u (91 :: (pw (cf l) m 2 ++ 63 :: (pw (cf l) m 1 ++ 124 :: (pw (cf l) m 0 ++ [93])))) S) : Tr (f_X5_printChoice (39 + 22 * s) (36 + 22 * s) (nI m) h) (fun _ h1 => NS h0 h1 s l b Lr Wr F ∧ NodeOut h h1 s (cf l) m T S) := by
  have j0 := opj_lt (c := cf l) (k := m) (i := 0) (by omega)
  have j1 := opj_lt (c := cf l) (k := m) (i := 1) (by omega)
  have j2 := opj_lt (c := cf l) (k := m) (i := 2) (by omega)
  refine Tr.ck (Lso_39 N.1 hs) (Tr.be (hA.inner hs N (by omega)) (Tr.ck (Lso_39 N.1 hs) ?_))
  refine Tr.bd (X5_putS hs N rfl hT p) (fun _ h1 q => ?_)
  obtain ⟨N1, p1, g1⟩ := q
  rw [ln1]
  refine Tr.ck (Lpo N1.1 (PA_s hs)) (Tr.be (X4_operandAt N1.1 (PA_s hs) N1.2.1 (j := 2) (by omega) (by omega) (by omega)) (Tr.ck (Lso_39 N1.1 hs) ?_))
  refine Tr.bd (X5_placed hs N1 (j := opj (cf l) m 2) (by omega) (hop 2 (by omega)).1 (hop 2 (by omega)).2 hT p1) (fun r h2 q => ?_)
  obtain ⟨rfl, N2, p2, g2⟩ := q
  refine Tr.ck (Lso_39 N2.1 hs) (Tr.bd (X5_putS hs N2 rfl hT p2) (fun _ h3 q => ?_))
  obtain ⟨N3, p3, g3⟩ := q
  rw [ln1]
  refine Tr.ck (Lpo N3.1 (PA_s hs)) (Tr.be (X4_operandAt N3.1 (PA_s hs) N3.2.1 (j := 1) (by omega) (by omega) (by omega)) (Tr.ck (Lso_39 N3.1 hs) ?_))
  refine Tr.bd (X5_placed hs N3 (j := opj (cf l) m 1) (by omega) (hop 1 (by omega)).1 (hop 1 (by omega)).2 hT p3) (fun r h4 q => ?_)
  obtain ⟨rfl, N4, p4, g4⟩ := q
  refine Tr.ck (Lso_39 N4.1 hs) (Tr.bd (X5_putS hs N4 rfl hT p4) (fun _ h5 q => ?_))
  obtain ⟨N5, p5, g5⟩ := q
  rw [ln1]
  refine Tr.ck (Lpo N5.1 (PA_s hs)) (Tr.be (X4_operandAt N5.1 (PA_s hs) N5.2.1 (j := 0) (by omega) (by omega) (by omega)) (Tr.ck (Lso_39 N5.1 hs) ?_))
  refine Tr.bd (X5_placed hs N5 (j := opj (cf l) m 0) (by omega) (hop 0 (by omega)).1 (hop 0 (by omega)).2 hT p5) (fun r h6 q => ?_)
  obtain ⟨rfl, N6, p6, g6⟩ := q
  refine Tr.ck (Lso_39 N6.1 hs) (Tr.bd (X5_putS hs N6 rfl hT p6) (fun _ h7 q => Tr.ret ?_))
  obtain ⟨N7, p7, g7⟩ := q
  exact ⟨N7, out3 ha ok p7 (seg_of p1.1) (seg_of p3.1) (seg_of p5.1) (by rw [g7, g6, g5, g4, g3, g2, g1])⟩
theorem X5_printNode (hs : s < 4) (N : NS h0 h s l b Lr Wr F) (hm : m < l.length) (h60 : l.length ≤ 60) (ok : ar (cf l m) ≤ (rt (cf l) m).length) (hT : T.length ≤ 358) (hA : AtU h s Wr m u) (hop : ∀ i, i < ar (cf l m) → Wr (opj (cf l) m i) = bi (ndj (cf l) m i) ∧ Lr (opj (cf l) m i) = nI (pw (cf l) m i).length) (hv : vcd (cf l m) = true) (p : PS T v h s u (str (cf l) m) S) : Tr (f_X5_printNode (39 + 22 * s) (36 + 22 * s) (nI m) h) (fun _ h1 => NS h0 h1 s l b Lr Wr F ∧ NodeOut h h1 s (cf l) m T S) := by
  have lt := vcd_lt hv
  refine Tr.ck (Lso_39 N.1 hs) (Tr.be (hA.inner hs N (by omega)) (Tr.ck (Lpo N.1 (PA_s hs)) (Tr.be (X4_kindAt N.1 (PA_s hs) N.2.1 hm (by omega) (by omega)) ?_)))
  rcases vcd_cases hv with hc | hc | hc | hc | hc | hc
  · rw [str_lf hc] at p
    have hv2 := hv
    unfold vcd at hv2
    simp only [Bool.or_eq_true, beq_iff_eq, Bool.and_eq_true, decide_eq_true_eq] at hv2
    by_cases c32 : cf l m < 32
    · rw [if_pos c32] at p
      have : cf l m = 0 ∨ cf l m = 16 := by omega
      rcases this with e | e
      · rw [e] at p
        rw [show cf l m / 16 = 0 by omega]
        refine Tr.pos rfl (Tr.ck (Lso_39 N.1 hs) (Tr.bd (X5_putS hs N rfl hT p) (fun _ h1 q => Tr.ret ?_)))
        exact ⟨q.1, out0 (if_pos hc) q.2.1 q.2.2⟩
      · rw [e] at p
        rw [show cf l m / 16 = 1 by omega]
        refine Tr.neg (by decide) (Tr.pos rfl (Tr.ck (Lso_39 N.1 hs) (Tr.bd (X5_putS hs N rfl hT p) (fun _ h1 q => Tr.ret ?_))))
        exact ⟨q.1, out0 (if_pos hc) q.2.1 q.2.2⟩
    · rw [if_neg c32] at p
      by_cases c48 : cf l m < 48
      · rw [if_pos c48] at p
        rw [show cf l m / 16 = 2 by omega]
        refine Tr.neg (by decide) (Tr.neg (by decide) (Tr.pos rfl (Tr.ck (Lso_39 N.1 hs) (Tr.bd (X5_leaf hs N hm h60 hT hA hv (by omega) hc p) (fun _ h1 q => Tr.ret q)))))
      · rw [if_neg c48] at p
        rw [show cf l m / 16 = 3 by omega]
        refine Tr.neg (by decide) (Tr.neg (by decide) (Tr.neg (by decide) (Tr.pos rfl (Tr.ck (Lso_39 N.1 hs) (Tr.bd (X5_leaf hs N hm h60 hT hA hv (by omega) hc p) (fun _ h1 q => Tr.ret q))))))
  · rw [str_64 hc ok] at p
    rw [show cf l m / 16 = 4 by omega]
    refine Tr.neg (by decide) (Tr.neg (by decide) (Tr.neg (by decide) (Tr.neg (by decide) (Tr.pos rfl (Tr.ck (Lso_39 N.1 hs) (Tr.bd (X5_pair hs N hm h60 ok hT hA hop (by rw [hc]; rfl) p) (fun _ h1 q => Tr.ret q)))))))
  · rw [str_80 hc ok] at p
    rw [show cf l m / 16 = 5 by omega]
    refine Tr.neg (by decide) (Tr.neg (by decide) (Tr.neg (by decide) (Tr.neg (by decide) (Tr.neg (by decide) (Tr.pos rfl (Tr.ck (Lso_39 N.1 hs) (Tr.bd (X5_pair hs N hm h60 ok hT hA hop (by rw [hc]; rfl) p) (fun _ h1 q => Tr.ret q))))))))
  · rw [str_96 hc ok] at p
    have ha : ar (cf l m) = 1 := by rw [hc]; rfl
    have j0 := opj_lt (c := cf l) (k := m) (i := 0) (by omega)
    rw [show cf l m / 16 = 6 by omega]
    refine Tr.neg (by decide) (Tr.neg (by decide) (Tr.neg (by decide) (Tr.neg (by decide) (Tr.neg (by decide) (Tr.neg (by decide) (Tr.pos rfl (Tr.ck (Lpo N.1 (PA_s hs)) ?_)))))))
    refine Tr.be (X4_operandAt N.1 (PA_s hs) N.2.1 (j := 0) (by omega) (by omega) (by omega)) (Tr.ck (Lso_39 N.1 hs) ?_)
    refine Tr.bd (X5_placed hs N (j := opj (cf l) m 0) (by omega) (hop 0 (by omega)).1 (hop 0 (by omega)).2 hT p) (fun r h1 q => ?_)
    obtain ⟨rfl, N1, p1, g1⟩ := q
    refine Tr.ck (Lso_39 N1.1 hs) (Tr.bd (X5_putS hs N1 rfl hT p1) (fun _ h2 q => Tr.ret ?_))
    exact ⟨q.1, out1 ha q.2.1 (seg_of p.1) (by rw [q.2.2, g1])⟩
  · rw [str_112 hc ok] at p
    have ha : ar (cf l m) = 1 := by rw [hc]; rfl
    have j0 := opj_lt (c := cf l) (k := m) (i := 0) (by omega)
    rw [show cf l m / 16 = 7 by omega]
    refine Tr.neg (by decide) (Tr.neg (by decide) (Tr.neg (by decide) (Tr.neg (by decide) (Tr.neg (by decide) (Tr.neg (by decide) (Tr.neg (by decide) (Tr.pos rfl (Tr.ck (Lso_39 N.1 hs) ?_))))))))
    refine Tr.bd (X5_putS hs N rfl hT p) (fun _ h1 q => ?_)
    obtain ⟨N1, p1, g1⟩ := q
    rw [ln1]
    refine Tr.ck (Lpo N1.1 (PA_s hs)) (Tr.be (X4_operandAt N1.1 (PA_s hs) N1.2.1 (j := 0) (by omega) (by omega) (by omega)) (Tr.ck (Lso_39 N1.1 hs) ?_))
    have p1' := p1.nil
    refine Tr.bd (X5_placed hs N1 (j := opj (cf l) m 0) (by omega) (hop 0 (by omega)).1 (hop 0 (by omega)).2 hT p1') (fun r h2 q => Tr.ret ?_)
    exact ⟨q.2.1, out1 ha q.2.2.1 (seg_of p1'.1) (by rw [q.2.2.2, g1])⟩
  · rw [str_128 hc ok] at p
    rw [show cf l m / 16 = 8 by omega]
    refine Tr.neg (by decide) (Tr.neg (by decide) (Tr.neg (by decide) (Tr.neg (by decide) (Tr.neg (by decide) (Tr.neg (by decide) (Tr.neg (by decide) (Tr.neg (by decide) (Tr.ck (Lso_39 N.1 hs) (Tr.bd (X5_choice hs N hm h60 ok hT hA hop (by rw [hc]; rfl) p) (fun _ h1 q => Tr.ret q))))))))))
end ND
end X5

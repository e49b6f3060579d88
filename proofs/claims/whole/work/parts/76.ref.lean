/-! THE REFERENCE: the printed form -/
theorem ch_neg : ∀ x, x < 200 → 0 < x → ¬ (0 : Int32) ≤ -(nI x) ∧ -(-(nI x)) = nI x := by decide +kernel
theorem no_m1 {k : Nat} (hk : k < 2 ^ 31) : ¬ nI k = (-1 : Int32) := fun z => nI_pos (n := k) (by omega) (by rw [z]; decide)
theorem ptx_len {c : Nat → Nat} {n : Nat} (ok : okc c n) (hv : ∀ k, vcd (c k) = true) : ∀ {P : List It}, (∀ x ∈ P, itok n x) → P.length ≤ (ptx c P).length := by
  intro P
  induction P with
  | nil => intro _; exact Nat.le_refl _
  | cons x t ih =>
    intro h
    have := ih (fun y hy => h y (List.mem_cons_of_mem _ hy))
    have h1 : 1 ≤ (ittx c x).length := by
      have hx := h x List.mem_cons_self
      match x, hx with
      | Sum.inl y, _ => exact Nat.le_refl _
      | Sum.inr k, hk =>
        show 1 ≤ (str c k).length
        rw [str_len (hv k) (ok k hk)]
        have : 1 ≤ owK (c k / 16) := by unfold owK; split <;> (try split) <;> (try split) <;> omega
        omega
    show t.length + 1 ≤ (ittx c x ++ ptx c t).length
    rw [List.length_append]; omega
section REF
variable {h : Hp} {G : St}
theorem X10_expands (M : MI h G) {s k : Nat} {P : List It} {d : List Nat} (hs : s < 4) (hk : k < (G.2.2.1 s).length) (O : OpA h (cf (G.2.2.1 s)) (G.2.2.1 s).length) (S : PilS h P) (hP : P.length < 800) (D : ShS h d) (hd : d.length < 800) (ok : ∀ x ∈ P, itok (G.2.2.1 s).length x) : Tr (f_X10_expands 123 (nI s) (nI k) h) (XQ h (cf (G.2.2.1 s)) (G.2.2.1 s).length k P d) := by
  have L := M.1
  have W := (M.slot hs).1
  have h60 := W.2.2.1
  have hv := cf_vcd W.2.2.2
  have okk := W.1 k hk
  have hj : ∀ i, i < ar (cf (G.2.2.1 s) k) → opj (cf (G.2.2.1 s)) k i < (G.2.2.1 s).length := fun i hi => by have := opj_lt (c := cf (G.2.2.1 s)) (k := k) (i := i) (by omega); omega
  have v0 := (O k hk).1
  have v1 := (O k hk).2.1
  have fin : ∀ x y, x = sgV (cf (G.2.2.1 s)) k 0 → y = sgV (cf (G.2.2.1 s)) k 1 → Tr (f_X10_expands_59 123 (nI k) (nI (sg (cf (G.2.2.1 s) k))) x y h) (XQ h (cf (G.2.2.1 s)) (G.2.2.1 s).length k P d) := fun x y ex ey => by
    subst ex ey
    exact X10_x59 L hv okk hk h60 O S hP D hd ok
  have f32 : ∀ x, x = sgV (cf (G.2.2.1 s)) k 0 → Tr (f_X10_expands_32 123 (nI s) (nI k) (nI (sg (cf (G.2.2.1 s) k))) x h) (XQ h (cf (G.2.2.1 s)) (G.2.2.1 s).length k P d) := by
    intro x ex
    refine Tr.ck (Lo_123 L) (Tr.gp (Lp_123_18 L) (Tr.ca (La_135 L (by omega)) ?_))
    rw [nI_clamp (by omega), v1]
    unfold opV
    by_cases c : 1 < ar (cf (G.2.2.1 s) k)
    · rw [if_pos c]
      have hlt := hj (ar (cf (G.2.2.1 s) k) - 1 - 1) (by omega)
      refine Tr.neg (no_m1 (by omega)) (Tr.gp (Lp_123_18 L) (Tr.ca (La_135 L (by omega)) ?_))
      have v1' : gI h 135 k = nI (opj (cf (G.2.2.1 s)) k (ar (cf (G.2.2.1 s) k) - 1 - 1)) := by rw [v1]; unfold opV; rw [if_pos c]
      rw [v1']
      exact Tr.be (X10_signOf M hs hlt) (fin _ _ ex (by unfold sgV; rw [if_pos c]))
    · rw [if_neg c]
      exact Tr.pos rfl (fin _ _ ex (by unfold sgV; rw [if_neg c]))
  refine Tr.ck (Lo_123 L) (Tr.be (X10_signOf M hs hk) (Tr.ck (Lo_123 L) (Tr.gp (Lp_123_17 L) (Tr.ca (La_134 L (by omega)) ?_))))
  rw [nI_clamp (by omega), v0]
  unfold opV
  by_cases c : 0 < ar (cf (G.2.2.1 s) k)
  · rw [if_pos c]
    have hlt := hj (ar (cf (G.2.2.1 s) k) - 1 - 0) (by omega)
    refine Tr.neg (no_m1 (by omega)) (Tr.gp (Lp_123_17 L) (Tr.ca (La_134 L (by omega)) ?_))
    have v0' : gI h 134 k = nI (opj (cf (G.2.2.1 s)) k (ar (cf (G.2.2.1 s) k) - 1 - 0)) := by rw [v0]; unfold opV; rw [if_pos c]
    rw [v0']
    exact Tr.be (X10_signOf M hs hlt) (f32 _ (by unfold sgV; rw [if_pos c]))
  · rw [if_neg c]
    exact Tr.pos rfl (f32 _ (by unfold sgV; rw [if_neg c]))
theorem X10_prints (M : MI h G) {s : Nat} (hs : s < 4) : Tr (f_X10_prints 123 (nI s) h) (fun _ h1 => ShS h1 (prS (G.2.2.1 s)) ∧ MI h1 G ∧ Fr mA h h1) := by
  have W := (M.slot hs).1
  have h60 := W.2.2.1
  have hpos := W.pos
  have hv := cf_vcd W.2.2.2
  have hT := prS_len W
  refine Tr.ck (Lo_123 M.1) (Tr.bd (X10_laysOperands M hs) (fun _ h1 q => ?_))
  obtain ⟨O1, F1⟩ := q
  have M1 := F1.mi M
  have L1 := M1.1
  refine Tr.ck (Lo_123 L1) ?_
  have Fz : GFr h1 (sI (sI h1 123 23 0) 123 21 1) := (GFr.f (Or.inr rfl)).tr (GFr.f (Or.inl rfl))
  have z21 : gI (sI (sI h1 123 23 0) 123 21 1) 123 21 = nI 1 := by rw [gI_sI, upd_eq]; rfl
  have z23 : gI (sI (sI h1 123 23 0) 123 21 1) 123 23 = nI 0 := by rw [gI_sI, upd_ne (by decide), gI_sI, upd_eq]; rfl
  have O2 : OpA (sI (sI h1 123 23 0) 123 21 1) (cf (G.2.2.1 s)) (G.2.2.1 s).length := fun m hm => by
    rw [gI_sI_ne (by decide), gI_sI_ne (by decide), gI_sI_ne (a := 123) (b := 135) (by decide), gI_sI_ne (a := 123) (b := 135) (by decide), gI_sI_ne (a := 123) (b := 136) (by decide), gI_sI_ne (a := 123) (b := 136) (by decide)]
    exact O1 m hm
  have F2 := F1.tr Fz
  have M2 := F2.mi M
  generalize sI (sI h1 123 23 0) 123 21 1 = h2 at Fz z21 z23 O2 F2 M2 ⊢
  have L2 := M2.1
  refine Tr.gp (Lp_123_20 L2) (Tr.gp (Lp_123_0 L2) (Tr.ca (La_124 L2 (by omega)) (Tr.ca (La_137 (j := 0) L2 (by decide)) ?_)))
  rw [nI_clamp (by omega), (M2.slot hs).2.1, show nI (G.2.2.1 s).length - 1 = nI ((G.2.2.1 s).length - 1) from pk_sub (a := (G.2.2.1 s).length) (b := 1) hpos]
  refine Tr.nmx ?_
  refine Tr.loop (fun m x => ∃ P d, PilS x P ∧ ShS x d ∧ d ++ ptx (cf (G.2.2.1 s)) P = prS (G.2.2.1 s) ∧ (∀ y ∈ P, itok (G.2.2.1 s).length y) ∧ OpA x (cf (G.2.2.1 s)) (G.2.2.1 s).length ∧ GFr h x ∧ m = 2 * (ptx (cf (G.2.2.1 s)) P).length - P.length) ?_ 5000 (2 * (ptx (cf (G.2.2.1 s)) [Sum.inr ((G.2.2.1 s).length - 1)]).length - 1) _ ⟨[Sum.inr ((G.2.2.1 s).length - 1)], [], ⟨?_, ?_, trivial⟩, ⟨?_, fun i hi => absurd hi (Nat.not_lt_zero _)⟩, ?_, ?_, ?_, ?_, rfl⟩ ?_
  · intro m h3 kk hI hk'
    obtain ⟨P, d, S, D, eT, ok, O, F, em⟩ := hI
    have M3 := F.mi M
    have L3 := M3.1
    have pl := ptx_len W.1 hv ok
    have tl : d.length + (ptx (cf (G.2.2.1 s)) P).length ≤ 358 := by rw [← eT, List.length_append] at hT; exact hT
    refine Tr.ck (Lo_123 L3) ?_
    cases P with
    | nil =>
      rw [S.1]
      have eT : d ++ [] = prS (G.2.2.1 s) := eT
      rw [List.append_nil] at eT
      exact Tr.pos (by decide) (Tr.ret ⟨by rw [← eT]; exact D, M3, F.mA⟩)
    | cons x t =>
      have s1 : gI h3 123 21 = nI (t.length + 1) := S.1
      rw [List.length_cons] at pl em
      have n0 : ¬ gI h3 123 21 ≤ 0 := by rw [s1]; exact nI_ge (a := 0) (b := t.length + 1) (by omega) (by omega)
      have e1 : gI h3 123 21 - 1 = nI t.length := by rw [s1]; exact pk_sub (a := t.length + 1) (b := 1) (by omega)
      refine Tr.neg n0 ?_
      rw [e1]
      have Fp : PFr h3 (sI h3 123 21 (nI t.length)) := ⟨Fr.sI (Or.inl rfl), fun i hi => by rw [gI_sI, upd_ne hi]⟩
      have Sp : PilS (sI h3 123 21 (nI t.length)) t := ⟨by rw [gI_sI, upd_eq], by rw [gI_sI_ne (by decide)]; exact S.2.2⟩
      have g21 : gI (sI h3 123 21 (nI t.length)) 123 21 = nI t.length := by rw [gI_sI, upd_eq]
      have g137 : gI (sI h3 123 21 (nI t.length)) 137 t.length = itv x := by rw [gI_sI_ne (by decide)]; exact S.2.1
      have Op := Fp.op O
      have Dp := Fp.sh D
      have F4 := F.tr Fp.g
      have M4 := F4.mi M
      generalize sI h3 123 21 (nI t.length) = h4 at Fp Sp g21 g137 Op Dp F4 M4 ⊢
      have L4 := M4.1
      refine Tr.gp (Lp_123_20 L4) ?_
      rw [g21]
      refine Tr.ca (La_137 L4 (by omega)) ?_
      rw [nI_clamp (by omega), g137]
      refine Tr.nmx ?_
      have okt : ∀ y ∈ t, itok (G.2.2.1 s).length y := fun y hy => ok y (List.mem_cons_of_mem _ hy)
      have okx := ok x List.mem_cons_self
      match x, okx, eT, em, pl, tl with
      | Sum.inl y, okx, eT, em, pl, tl =>
        have cn := ch_neg y okx.2 okx.1
        have hlen : (ptx (cf (G.2.2.1 s)) (Sum.inl y :: t)).length = (ptx (cf (G.2.2.1 s)) t).length + 1 := by
          show ([y] ++ ptx (cf (G.2.2.1 s)) t).length = _
          rw [List.length_append, List.length_singleton]; omega
        rw [hlen] at em tl pl
        refine Tr.neg cn.1 ?_
        show Tr (bd (f_X10_shows 123 (-(-(nI y))) h4) _) _
        rw [cn.2]
        refine Tr.bd (X10_shows L4 Dp (by omega) y) (fun _ h5 q => hk' (2 * (ptx (cf (G.2.2.1 s)) t).length - t.length) h5 (by omega) ⟨t, d ++ [y], q.2.pil Sp, q.1, ?_, okt, q.2.op Op, F4.tr q.2.g, rfl⟩)
        rw [← eT, List.append_assoc]; rfl
      | Sum.inr k, okx, eT, em, pl, tl =>
        have hlen : (ptx (cf (G.2.2.1 s)) (Sum.inr k :: t)).length = (str (cf (G.2.2.1 s)) k).length + (ptx (cf (G.2.2.1 s)) t).length := by
          show (str (cf (G.2.2.1 s)) k ++ ptx (cf (G.2.2.1 s)) t).length = _
          rw [List.length_append]
        rw [hlen] at em tl pl
        have hk : k < (G.2.2.1 s).length := okx
        refine Tr.pos (nI_le (a := 0) (b := k) (by omega) (by omega)) (Tr.bd (X10_expands M4 hs hk Op Sp (by omega) Dp (by omega) okt) (fun _ h5 q => ?_))
        obtain ⟨q1, q2, P', d', q3, q4, q5, q6, q7⟩ := q
        have pl' := ptx_len W.1 hv q6
        refine hk' (2 * (ptx (cf (G.2.2.1 s)) P').length - P'.length) h5 (by omega) ⟨P', d', q3, q4, ?_, q6, q2, F4.tr q1, rfl⟩
        rw [q5]; exact eT
  · rw [gI_sI_ne (by decide)]; exact z21
  · rw [gI_sI]
    show va_up (gI h2 137) 0 (nI ((G.2.2.1 s).length - 1)) 0 = _
    rw [upd_eq]; rfl
  · rw [gI_sI_ne (by decide)]; exact z23
  · show [] ++ (str (cf (G.2.2.1 s)) ((G.2.2.1 s).length - 1) ++ []) = _
    rw [List.nil_append, List.append_nil]; rfl
  · intro y hy
    rw [List.mem_singleton.mp hy]
    show (G.2.2.1 s).length - 1 < (G.2.2.1 s).length
    omega
  · intro m hm
    rw [gI_sI_ne (by decide), gI_sI_ne (a := 137) (b := 135) (by decide), gI_sI_ne (a := 137) (b := 136) (by decide)]
    exact O2 m hm
  · exact F2.tr (GFr.c (by decide) (by decide))
  · show 2 * (str (cf (G.2.2.1 s)) ((G.2.2.1 s).length - 1) ++ []).length - 1 < 5000
    rw [List.append_nil]
    have : (str (cf (G.2.2.1 s)) ((G.2.2.1 s).length - 1)).length ≤ 358 := hT
    omega
end REF

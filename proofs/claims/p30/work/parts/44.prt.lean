section X5
variable {h h0 : Hp} {s : Nat} {l : List Nat} {b : Bool}
/-- after the first loop: what each node's operands have -/
def PJ (s : Nat) (c : Nat → Nat) (k : Nat) (fl fw : Nat → Int32) : Prop :=
  (∀ m, m < k → ∀ i, i < ar (c m) → fl (opj c m i) = nI (pw c m i).length ∧ fw (opj c m i) = bi (ndj c m i)) ∧ ∀ r ∈ rt c k, fl r = nI (str c r).length ∧ fw r = 0
theorem PJ.step {c : Nat → Nat} {k : Nat} {fl fw fl1 fw1 : Nat → Int32} (okc' : okc c (k + 1)) (J : PJ s c k fl fw) (m1 : ∀ i, i < ar (c k) → fl1 (opj c k i) = nI (pw c k i).length ∧ fw1 (opj c k i) = bi (ndj c k i)) (m2 : ∀ x, (∀ i, i < ar (c k) → x ≠ opj c k i) → fl1 x = fl x ∧ fw1 x = va_up fw k 0 x) : PJ s c (k + 1) (va_up fl1 k (nI (str c k).length)) fw1 := by
  have ok := okc' k (by omega)
  refine ⟨fun m hm i hi => ?_, fun r hr => ?_⟩
  · have okm := okc' m hm
    have hlt := opj_lt (c := c) (k := m) (i := i) (by omega)
    rw [upd_ne (show opj c m i ≠ k by omega)]
    by_cases e : m = k
    · subst e; exact m1 i hi
    · have hout := opj_out hi okm k (by omega)
      have hne : ∀ i', i' < ar (c k) → opj c m i ≠ opj c k i' := fun i' hi' z => hout (by rw [z, opj_eq (by omega)]; exact List.getElem_mem _)
      rw [(m2 _ hne).1, (m2 _ hne).2, upd_ne (show opj c m i ≠ k by omega)]
      exact J.1 m (by omega) i hi
  · have hkne : ∀ i', i' < ar (c k) → k ≠ opj c k i' := fun i' hi' z => by
      have := opj_lt (c := c) (k := k) (i := i') (by omega)
      omega
    rcases List.mem_cons.mp hr with e | e
    · subst e
      rw [upd_eq, (m2 _ hkne).2, upd_eq]
      exact ⟨rfl, rfl⟩
    · have hlt := rt_lt c k r (List.mem_of_mem_drop e)
      have hne : ∀ i', i' < ar (c k) → r ≠ opj c k i' := fun i' hi' z => by
        obtain ⟨j, hj, e2⟩ := List.getElem_of_mem e
        rw [List.getElem_drop] at e2
        have hj2 : ar (c k) + j < (rt c k).length := by rw [List.length_drop] at hj; omega
        rw [z, opj_eq (show i' < (rt c k).length by omega)] at e2
        have := rt_inj hj2 (show i' < (rt c k).length by omega) e2
        omega
      rw [upd_ne (show r ≠ k by omega), (m2 _ hne).1, (m2 _ hne).2, upd_ne (show r ≠ k by omega)]
      exact J.2 r (List.mem_of_mem_drop e)
/-- what is known of the places of the roots, and which bytes are still to come -/
def RoK (T : List Nat) (Wr q : Nat → Int32) (c : Nat → Nat) (r : Nat) : Prop := ∃ w p, Wr r = bi w ∧ q r = nI p ∧ Seg T p (wrS w (str c r))
def UnR (Wr q : Nat → Int32) (c : Nat → Nat) (L : List Nat) (i : Nat) : Prop := ∃ r, r ∈ L ∧ ∃ w p, Wr r = bi w ∧ q r = nI p ∧ p < 2 ^ 30 ∧ Inn p w (str c r) i
theorem bi_inj {x y : Bool} (h : bi x = bi y) : x = y := by cases x <;> cases y <;> first | rfl | exact absurd h (by decide)
theorem X5_p79 (hs : s < 4) (W : Wf l) {Lr Wr F : Nat → Int32} {T : List Nat} (hT : T.length ≤ 358) (hop : ∀ m, m < l.length → ∀ i, i < ar (cf l m) → Wr (opj (cf l) m i) = bi (ndj (cf l) m i) ∧ Lr (opj (cf l) m i) = nI (pw (cf l) m i).length)
    {h1 : Hp} (N : NS h0 h1 s l b Lr Wr F) (R : ∀ r ∈ rt (cf l) l.length, RoK T Wr (gI h1 (43 + 22 * s)) (cf l) r) (C : Cor T (gI h1 (40 + 22 * s)) (UnR Wr (gI h1 (43 + 22 * s)) (cf l) (rt (cf l) l.length))) :
    Tr (loopN (fun kc x => f_X5_print_79 kc (39 + 22 * s) (36 + 22 * s) x.1 x.2) 5000 (nI l.length - 1, h1)) (fun _ h2 => NS h0 h2 s l b Lr Wr F ∧ ∀ i, i < T.length → gI h2 (40 + 22 * s) i = nI (T.getD i 0)) := by
  have h60 := W.2.2.1
  refine Tr.down (J := fun p x => p ≤ l.length ∧ x.1 = nI p - 1 ∧ NS h0 x.2 s l b Lr Wr F ∧ (∀ r ∈ rt (cf l) p, RoK T Wr (gI x.2 (43 + 22 * s)) (cf l) r) ∧ Cor T (gI x.2 (40 + 22 * s)) (UnR Wr (gI x.2 (43 + 22 * s)) (cf l) (rt (cf l) p))) ?_ ?_ (p := l.length) ⟨Nat.le_refl _, rfl, N, R, C⟩ (by omega)
  · intro m x kk hJ hk'
    obtain ⟨x1, h2⟩ := x
    obtain ⟨j1, j2, N2, R2, C2⟩ := hJ
    dsimp only at j2 N2 R2 C2
    subst j2
    rw [nI_pred]
    dsimp only
    have ok := W.1 m (by omega)
    refine Tr.neg (nI_pos (by omega)) (Tr.ck (Lso_39 N2.1 hs) ?_)
    obtain ⟨w, p, w1, w2, u, v, e1, e2⟩ := R2 m List.mem_cons_self
    have hpl : p < 2 ^ 30 := by
      have : u.length ≤ T.length := by rw [e1]; simp
      omega
    obtain ⟨u', v', g1, g2⟩ : ∃ u' v', T = u' ++ (str (cf l) m ++ v') ∧ p + (if w then 1 else 0) = u'.length := by
      cases w
      · exact ⟨u, v, e1, by rw [e2]; rfl⟩
      · refine ⟨u ++ [40], [41] ++ v, ?_, ?_⟩
        · rw [e1]; simp [wrS]
        · rw [List.length_append, e2]; rfl
    have PSm : PS T v' h2 s u' (str (cf l) m) (UnR Wr (gI h2 (43 + 22 * s)) (cf l) ((rt (cf l) m).drop (ar (cf l m)))) := by
      refine ⟨g1, C2.wk (fun i hi => ?_)⟩
      obtain ⟨r, r1, wr, pr, r2, r3, r4, r5⟩ := hi
      rcases List.mem_cons.mp r1 with e | e
      · subst e
        have a1 : wr = w := bi_inj (r2.symm.trans w1)
        have a2 : pr = p := (nI_eq (by omega) (by omega)).mp (r3.symm.trans w2)
        subst a1 a2
        exact Or.inr ⟨by rw [← g2]; exact r5.1, by rw [← g2]; exact r5.2⟩
      · exact Or.inl ⟨r, e, wr, pr, r2, r3, r4, r5⟩
    refine Tr.bd (X5_printNode hs N2 (by omega) h60 ok hT ⟨w, p, w1, w2, g2⟩ (hop m (by omega)) (cf_vcd W.2.2.2 m) PSm) (fun _ h3 q => ?_)
    obtain ⟨N3, ps, q1, q2, q3⟩ := q
    refine Tr.nmx (hk' _ ⟨by omega, ?_, N3, fun r hr => ?_, ?_⟩)
    · show nI m + -1 = nI m - 1
      cases m with
      | zero => decide
      | succ m => rw [pk_m1, nI_pred]
    · obtain ⟨j, hj, e⟩ := List.getElem_of_mem hr
      by_cases c : j < ar (cf l m)
      · have er : r = opj (cf l) m j := by rw [opj_eq hj]; exact e.symm
        subst er
        exact ⟨ndj (cf l) m j, ps j, (hop m (by omega) j c).1, (q1 j c).1, (q1 j c).2⟩
      · have hne : ∀ i, i < ar (cf l m) → r ≠ opj (cf l) m i := fun i hi z => by
          rw [opj_eq (show i < (rt (cf l) m).length by omega), ← e] at z
          have := rt_inj hj (show i < (rt (cf l) m).length by omega) z
          omega
        obtain ⟨wr, pr, r1, r2, r3⟩ := R2 r (List.mem_cons_of_mem _ (by
          rw [← e]
          have : (rt (cf l) m)[j] = ((rt (cf l) m).drop (ar (cf l m)))[j - ar (cf l m)]'(by rw [List.length_drop]; omega) := by rw [List.getElem_drop]; congr 1; omega
          rw [this]
          exact List.getElem_mem _))
        exact ⟨wr, pr, r1, by rw [q2 r hne]; exact r2, r3⟩
    · refine q3.wk (fun i hi => ?_)
      rcases hi with ⟨r, r1, wr, pr, r2, r3, r4, r5⟩ | ⟨i0, i1, i2⟩
      · have hne : ∀ i, i < ar (cf l m) → r ≠ opj (cf l) m i := fun i hi z => by
          obtain ⟨j, hj, e⟩ := List.getElem_of_mem r1
          rw [List.getElem_drop] at e
          have hj2 : ar (cf l m) + j < (rt (cf l) m).length := by rw [List.length_drop] at hj; omega
          rw [z, opj_eq (show i < (rt (cf l) m).length by omega)] at e
          have := rt_inj hj2 (show i < (rt (cf l) m).length by omega) e
          omega
        exact ⟨r, List.mem_of_mem_drop r1, wr, pr, r2, by show gI h3 _ r = _; rw [q2 r hne]; exact r3, r4, r5⟩
      · refine ⟨opj (cf l) m i0, ?_, ndj (cf l) m i0, ps i0, (hop m (by omega) i0 i1).1, (q1 i0 i1).1, ?_, i2⟩
        · rw [opj_eq (show i0 < (rt (cf l) m).length by omega)]; exact List.getElem_mem _
        · obtain ⟨u0, v0, z1, z2⟩ := (q1 i0 i1).2
          have : u0.length ≤ T.length := by rw [z1]; simp
          omega
  · intro x kk hJ
    obtain ⟨x1, h2⟩ := x
    obtain ⟨j1, j2, N2, R2, C2⟩ := hJ
    dsimp only at j2 N2 R2 C2
    subst j2
    refine Tr.pos (show (nI 0 - 1 : Int32) < 0 by decide) (Tr.ret ⟨N2, fun i hi => ?_⟩)
    rcases C2 i hi with e | ⟨r, r1, _⟩
    · exact e
    · cases r1
theorem X5_print (L : Lay h) (hs : s < 4) (P : PolI h (36 + 22 * s) l b) (W : Wf l) : Tr (f_X5_print (39 + 22 * s) (36 + 22 * s) h) (fun _ h1 => Fr (q5 s) h h1 ∧ gI h1 (39 + 22 * s) 4 = nI (prS l).length ∧ ∀ i, i < (prS l).length → gI h1 (40 + 22 * s) i = nI ((prS l).getD i 0)) := by
  have h60 := W.2.2.1
  have hpos := W.pos
  have hT := prS_len W
  refine Tr.ck (Lpo L (PA_s hs)) (Tr.be (X4_nodeCount L (PA_s hs) P) (Tr.neg (nI_nlt (b := 1) hpos (by omega)) (Tr.pos (nI_le (b := 60) h60 (by decide)) ?_)))
  refine Tr.up (N := l.length) (J := fun k x => ∃ fl fw, x = (nI k, wI (wI h (41 + 22 * s) fl) (42 + 22 * s) fw) ∧ PJ s (cf l) k fl fw) ?_ ?_ (p := 0) ⟨_, _, by rw [wI_self, wI_self]; rfl, fun m hm => absurd hm (Nat.not_lt_zero _), fun r hr => by cases hr⟩ (Nat.zero_le _) (by omega)
  · intro k x kk hk hJ hk'
    obtain ⟨fl, fw, rfl, J⟩ := hJ
    dsimp only
    have L1 : Lay (wI (wI h (41 + 22 * s) fl) (42 + 22 * s) fw) := L
    have ok := W.1 k hk
    refine Tr.neg (nI_ge hk (by omega)) (Tr.ck (Lso_39 L1 hs) (Tr.gp (Lsp_39_2 L1 hs) (Tr.ca (Lsa_42 L1 hs (by omega)) ?_)))
    rw [nI_clamp (by omega), sI_ww2]
    have L2 : Lay (wI (wI h (41 + 22 * s) fl) (42 + 22 * s) (va_up fw k 0)) := L
    have P2 : PolI (wI (wI h (41 + 22 * s) fl) (42 + 22 * s) (va_up fw k 0)) (36 + 22 * s) l b := P.fr (A := fun a => 41 + 22 * s ≤ a) ((Fr.wI (by show _ ≤ _; omega)).tr (Fr.wI (by show _ ≤ _; omega))) (by omega) (by omega) (by omega)
    refine Tr.gp (Lsp_39_1 L2 hs) (Tr.bd (X5_measured L2 hs P2 hk h60 ok W.2.2.2 (fun i hi => ?_)) (fun r h3 q => ?_))
    · have hlt := opj_lt (c := cf l) (k := k) (i := i) (by omega)
      rw [gI_wI_ne (by omega), gI_wI, gI_wI, upd_ne (show opj (cf l) k i ≠ k by omega)]
      exact J.2 _ (by rw [opj_eq (by omega)]; exact List.getElem_mem _)
    · obtain ⟨rfl, fl1, fw1, rfl, M⟩ := q
      rw [wI_comm (h := wI h (41 + 22 * s) fl) (show 42 + 22 * s ≠ 41 + 22 * s by omega), wI_wI, wI_wI]
      have L3 : Lay (wI (wI h (41 + 22 * s) fl1) (42 + 22 * s) fw1) := L
      refine Tr.ca (Lsa_41 L3 hs (by omega)) (Tr.nmx (hk' _ ⟨_, _, ?_, J.step (W.1.le (by omega)) M.1 (fun x hx => ?_)⟩))
      · rw [nI_1, sI_ww1 (by omega)]
      · have := M.2 x hx
        rw [gI_wI_ne (by omega), gI_wI, gI_wI] at this
        exact this
  · intro x kk hJ
    obtain ⟨fl, fw, rfl, J⟩ := hJ
    dsimp only
    have L1 : Lay (wI (wI h (41 + 22 * s) fl) (42 + 22 * s) fw) := L
    refine Tr.pos (nI_le (Nat.le_refl _) (by omega)) (Tr.ck (Lso_39 L1 hs) (Tr.gp (Lsp_39_1 L1 hs) ?_))
    have en : nI l.length - 1 = nI (l.length - 1) := pk_sub hpos
    obtain ⟨n', hn'⟩ : ∃ n', l.length = n' + 1 := ⟨l.length - 1, by omega⟩
    have hmem : n' ∈ rt (cf l) l.length := by rw [hn']; exact List.mem_cons_self
    have hroot := J.2 n' hmem
    have hpr : prS l = str (cf l) n' := by unfold prS; rw [hn']; rfl
    rw [show nI l.length - 1 = nI n' by rw [hn', nI_pred]]
    refine Tr.ca (Lsa_41 L1 hs (by omega)) ?_
    rw [nI_clamp (by omega)]
    refine Tr.gp (Lsp_39_3 L1.sI hs) (Tr.ca (Lsa_43 L1.sI hs (by omega)) (Tr.nmx ?_))
    rw [gI_wI_ne (by omega), gI_wI, hroot.1, ← hpr]
    have hfin := X5_p79 (h0 := h) (b := b) hs W (Lr := fl) (Wr := fw) (F := va_up (gI h (39 + 22 * s)) 4 (nI (prS l).length)) (T := prS l) hT (fun m hm i hi => ⟨(J.1 m hm i hi).2, (J.1 m hm i hi).1⟩) (h1 := sI (sI (wI (wI h (41 + 22 * s) fl) (42 + 22 * s) fw) (39 + 22 * s) 4 (nI (prS l).length)) (43 + 22 * s) n' 0) ?_ ?_ ?_
    · rw [show nI l.length - 1 = nI n' by rw [hn', nI_pred]] at hfin
      refine Tr.imp hfin (fun _ h2 q => ⟨q.1.2.2.2.2.2, ?_, q.2⟩)
      rw [q.1.2.2.2.2.1, upd_eq]
    · refine ⟨L, P.fr (A := fun a => 39 + 22 * s ≤ a) ((((Fr.wI (by show _ ≤ _; omega)).tr (Fr.wI (by show _ ≤ _; omega))).tr (Fr.sI (by show _ ≤ _; omega))).tr (Fr.sI (by show _ ≤ _; omega))) (by omega) (by omega) (by omega), ?_, ?_, ?_, (((Fr.wI ⟨by omega, by omega⟩).tr (Fr.wI ⟨by omega, by omega⟩)).tr (Fr.sI ⟨by omega, by omega⟩)).tr (Fr.sI ⟨by omega, by omega⟩)⟩
      · rw [gI_sI_ne (by omega), gI_sI_ne (by omega), gI_wI_ne (by omega), gI_wI]
      · rw [gI_sI_ne (by omega), gI_sI_ne (by omega), gI_wI]
      · rw [gI_sI_ne (by omega), gI_sI, gI_wI_ne (by omega), gI_wI_ne (by omega)]
    · intro r hr
      have hr1 : r = n' := by
        have h1 := W.2.1
        rw [hn'] at hr h1
        have : rt (cf l) (n' + 1) = n' :: (rt (cf l) n').drop (ar (cf l n')) := rfl
        rw [this] at hr h1
        rw [List.length_cons] at h1
        rcases List.mem_cons.mp hr with e | e
        · exact e
        · have := List.length_pos_of_mem e; omega
      subst hr1
      refine ⟨false, 0, hroot.2, ?_, [], [], ?_, rfl⟩
      · rw [gI_sI, upd_eq]; rfl
      · rw [hpr]; simp [wrS]
    · intro i hi
      refine Or.inr ⟨n', hmem, false, 0, hroot.2, ?_, by decide, ?_, ?_⟩
      · rw [gI_sI, upd_eq]; rfl
      · show 0 + 0 ≤ i; omega
      · rw [← hpr]; show i < 0 + 0 + _; omega
end X5

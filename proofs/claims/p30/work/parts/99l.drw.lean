/-! THE LAW: a diagram and its table as told -/
section LDR
variable {h0 h : Hp} {G : St}
/-- how many bits -/
theorem L_ones {Q : Int32 → Hp → Prop} {K : Int32 → Hp → Option (Int32 × Hp)} (x : Int64) (k : Tr (K (nI (fb_ct (bq x) 64)) h) Q) : Tr (bd (f_L_ones x h) K) Q := by
  refine Tr.bd (Q1 := fun r h1 => r = nI (fb_ct (bq x) 64) ∧ h1 = h) ?_ (fun r h1 q => by obtain ⟨rfl, rfl⟩ := q; exact k)
  have hb : fb_ct (bq x) 64 ≤ 64 := fb_ct_le _ 64
  refine Tr.loop (I := fun m (s : Int32 × Int64) => ∃ n, s.1 = nI n ∧ m = fb_ct (bq s.2) 64 ∧ n + m = fb_ct (bq x) 64) ?_ 5000 (fb_ct (bq x) 64) _ ⟨0, rfl, rfl, Nat.zero_add _⟩ (by omega)
  intro m s kk hI hk'
  obtain ⟨s1, s2⟩ := s
  obtain ⟨n, ea, em, es⟩ := hI
  dsimp only at ea em es
  subst ea
  dsimp only
  by_cases c : s2 = 0
  · refine Tr.pos (by rw [c]; exact lg_same _) (Tr.ret ⟨?_, rfl⟩)
    have e0 : m = 0 := by rw [em, c]; exact ct_0
    rw [← es, e0]
    rfl
  · obtain ⟨q, hq, b1, b2⟩ := set_first c
    have e := ct_out hq b1 (low_rest hq b1 b2)
    refine Tr.neg (lg_no c) (Tr.nmx (Tr.nmx (hk' (fb_ct (bq (s2 &&& (s2 - 1))) 64) _ ?_ ⟨n + 1, nI_1 n, rfl, ?_⟩)))
    · rw [em]; exact Nat.lt_of_lt_of_eq (Nat.lt_succ_self _) e
    · rw [← es, em, ← e]
      exact Nat.add_right_comm n 1 _
theorem dr334 (W : WS h0 h G) {a : Nat} {s : Int32} (ha : a < 4) : Tr (f_L_isDrawn_334 1 (nI a) s s h) (LOK h0 G.2.2.1) := by
  refine Tr.pos rfl (c_isP W ha (fun h1 W1 => ?_))
  cases hp : prd (G.2.2.1 a) with
  | false => exact Tr.pos rfl (Tr.ret ⟨rfl, G, W1, rfl⟩)
  | true =>
    have hpt : ∀ p, p < 64 → evI (G.2.2.1 a) p = 0 ∨ evI (G.2.2.1 a) p = ob p := fun p q => prd_ev (W.wf ha) hp q
    have hw := wid_prd hpt
    have hr := rds_prd hpt
    refine Tr.neg (by decide) (c_spread W1 ha (fun h2 W2 => ?_))
    generalize widN (evI (G.2.2.1 a)) = w at hw ⊢
    refine Tr.neg (nI_ge (a := w) (b := 2) (by omega) (by decide)) (c_rounds W2 ha (fun h3 W3 => ?_))
    rw [hr]
    exact Tr.pos rfl (Tr.ret ⟨rfl, G, W3, rfl⟩)
theorem dr271 (W : WS h0 h G) {a n : Nat} (ha : a < 4) (hn : n ≤ 64) (hd : fb_ct (bq (domI (evI (G.2.2.1 a)))) 64 ≤ n) : Tr (f_L_isDrawn_271 1 (nI a) 1 (nI n) h) (LOK h0 G.2.2.1) := by
  refine Tr.neg (by decide) (Tr.neg (nI_nlt (a := 64) (b := n) hn (by decide)) (c_accepted W ha (fun h1 W1 => L_ones _ ?_)))
  have h64 := wid_64 (evI (G.2.2.1 a))
  have h00 := wid_0 (f := evI (G.2.2.1 a))
  generalize fb_ct (bq (domI (evI (G.2.2.1 a)))) 64 = d at hd ⊢
  refine Tr.neg (nI_nlt (a := n) (b := d) hd (by omega)) (c_spread W1 ha (fun h2 W2 => ?_))
  generalize hw : widN (evI (G.2.2.1 a)) = w at h64 h00 ⊢
  refine Tr.neg (nI_nlt (a := 64) (b := w) h64 (by decide)) (c_spread W2 ha (fun h3 W3 => ?_))
  rw [hw]
  refine Tr.cs (fun c => ?_) (fun c => ?_)
  · have hw0 : w = 0 := (nI_eq (a := w) (b := 0) (by omega) (by decide)).mp c
    refine c_accepted W3 ha (fun h4 W4 => ?_)
    rw [h00.mp hw0]
    exact Tr.pos (lg_same _) (dr334 W4 ha)
  · have hw0 : ¬ w = 0 := fun z => c (by rw [z]; rfl)
    exact c_accepted W3 ha (fun h4 W4 => Tr.neg (lg_no (fun z => hw0 (h00.mpr z))) (dr334 W4 ha))
theorem dr228 (W : WS h0 h G) {a : Nat} (ha : a < 4) : Tr (f_L_isDrawn_228 1 (nI a) (nI (tN (G.2.2.1 a))) h) (LOK h0 G.2.2.1) := by
  have n1 := tN_le (G.2.2.1 a)
  have n2 := tR_len (G.2.2.1 a)
  have hd := smH_dom (G.2.2.1 a)
  refine Tr.up (N := tN (G.2.2.1 a)) (J := fun k (x : Int32 × Int32 × Hp) => x.1 = nI (smH (tR (G.2.2.1 a)) (tN (G.2.2.1 a)) k) ∧ x.2.1 = nI k ∧ WS h0 x.2.2 G) ?_ ?_ (p := 0) ⟨rfl, rfl, W⟩ (Nat.zero_le _) (by omega)
  · intro k x kk hk hJ hk'
    obtain ⟨x1, x2, h2⟩ := x
    obtain ⟨ea, eb, W2⟩ := hJ
    dsimp only at ea eb W2
    subst ea eb
    dsimp only
    exact Tr.neg (nI_ge (b := tN (G.2.2.1 a)) hk (by omega)) (Tr.neg (by decide) (c_hits W2 ha hk (fun h3 W3 => Tr.nmx (Tr.nmx (hk' _ ⟨nI_add _ _, nI_1 k, W3⟩)))))
  · intro x kk hJ
    obtain ⟨x1, x2, h2⟩ := x
    obtain ⟨ea, eb, W2⟩ := hJ
    dsimp only at ea eb W2
    subst ea eb
    dsimp only
    exact Tr.pos (nI_le (b := tN (G.2.2.1 a)) (Nat.le_refl _) (by omega)) (dr271 W2 ha (smH_64 (by omega)) hd)
theorem dr190 (W : WS h0 h G) {a b : Nat} (ha : a < 4) (hb : b < 4) : Tr (f_L_isDrawn_190 1 (nI a) (nI b) (nI (cO (evI (G.2.2.1 a)) + (cT (evI (G.2.2.1 a))).length)) (nI (tN (G.2.2.1 a))) h) (LOK h0 G.2.2.1) := by
  refine c_compare W ha hb (fun h1 W1 => ?_)
  rcases ord_cases (R := evI (G.2.2.1 a)) (S := evI (G.2.2.1 b)) with ⟨e1, _, _, ee⟩ | ⟨_, hc⟩
  · obtain ⟨d1, d2, d3, _⟩ := dgm_congr ee
    have ds := sh_eq ee
    have dn := tN_eq ee
    rw [e1]
    refine Tr.pos rfl (c_shared W1 ha hb (fun h2 W2 => ?_))
    rw [ds]
    refine Tr.pos rfl (c_dsize W2 hb (fun h3 W3 => ?_))
    rw [d2, d3]
    refine Tr.pos rfl (c_rows W3 hb (fun h4 W4 => ?_))
    rw [dn]
    exact Tr.pos rfl (dr228 W4 ha)
  · have ne : ¬ ordN (evI (G.2.2.1 a)) (evI (G.2.2.1 b)) = 0 := by
      rcases hc with ⟨e, _⟩ | ⟨e, _⟩ | ⟨e, _⟩ <;> rw [e] <;> decide
    exact Tr.neg ne (dr228 W1 ha)
theorem dr152 (W : WS h0 h G) {a b : Nat} (ha : a < 4) (hb : b < 4) : Tr (f_L_isDrawn_152 1 (nI a) (nI b) (nI (cO (evI (G.2.2.1 a)) + (cT (evI (G.2.2.1 a))).length)) (nI (tN (G.2.2.1 a))) 1 h) (LOK h0 G.2.2.1) := by
  have n1 := tN_le (G.2.2.1 a)
  have n2 := tR_len (G.2.2.1 a)
  refine Tr.neg (by decide) (Tr.cs (fun c => ?_) (fun c => ?_))
  · have c0 : tN (G.2.2.1 a) = 0 := (nI_eq (b := 0) (by omega) (by decide)).mp c
    refine c_accepted W ha (fun h1 W1 => ?_)
    rw [rows_0 c0]
    exact Tr.pos (lg_same _) (dr190 W1 ha hb)
  · have c0 : 0 < tN (G.2.2.1 a) := Nat.pos_of_ne_zero (fun z => c (by rw [z]; rfl))
    have e : nI (tN (G.2.2.1 a)) - 1 = nI (tN (G.2.2.1 a) - 1) := pk_sub (a := tN (G.2.2.1 a)) (b := 1) c0
    rw [e]
    refine c_action W ha (by omega) m1_le' (fun h1 W1 => ?_)
    have hl := rows_last c0
    have h8 := tot_128 ((lD (G.2.2.1 a)).getD ((tR (G.2.2.1 a)).getD (tN (G.2.2.1 a) - 1) (0, 0)).2 (0, 0))
    have ea : actN (G.2.2.1 a) (tN (G.2.2.1 a) - 1) (-1) = nI (tot ((lD (G.2.2.1 a)).getD ((tR (G.2.2.1 a)).getD (tN (G.2.2.1 a) - 1) (0, 0)).2 (0, 0))) := by unfold actN; rw [if_pos rfl]
    rw [ea]
    generalize tot ((lD (G.2.2.1 a)).getD ((tR (G.2.2.1 a)).getD (tN (G.2.2.1 a) - 1) (0, 0)).2 (0, 0)) = t at hl h8 ⊢
    exact Tr.neg (nI_nle hl (by omega)) (dr190 W1 ha hb)
theorem dr100 (W : WS h0 h G) {a b : Nat} (ha : a < 4) (hb : b < 4) : Tr (f_L_isDrawn_100 1 (nI a) (nI b) (nI (cO (evI (G.2.2.1 a)) + (cT (evI (G.2.2.1 a))).length)) (nI (tN (G.2.2.1 a))) h) (LOK h0 G.2.2.1) := by
  have n1 := tN_le (G.2.2.1 a)
  have n2 := tR_len (G.2.2.1 a)
  have k1 := cO_64 (evI (G.2.2.1 a))
  have k2 := cT_len (evI (G.2.2.1 a))
  have e1 := sh_self (R := evI (G.2.2.1 a))
  have e2 := sh_sym (R := evI (G.2.2.1 a)) (S := evI (G.2.2.1 b))
  have e3 := sh_le (R := evI (G.2.2.1 a)) (S := evI (G.2.2.1 b))
  refine c_shared W ha ha (fun h1 W1 => ?_)
  rw [e1]
  refine Tr.pos rfl (c_shared W1 ha hb (fun h2 W2 => c_shared W2 hb ha (fun h3 W3 => ?_)))
  rw [← e2]
  refine Tr.pos rfl (c_shared W3 ha hb (fun h4 W4 => ?_))
  generalize shN (evI (G.2.2.1 a)) (evI (G.2.2.1 b)) = s at e3 ⊢
  refine Tr.neg (nI_nlt (b := s) e3 (by omega)) (Tr.neg (nI_pos (by omega)) (Tr.neg (nI_ge (b := 65) (by omega) (by decide)) (dr152 W4 ha hb)))
theorem L_isDrawn (W : WS h0 h G) {a b : Nat} (ha : a < 4) (hb : b < 4) : Tr (f_L_isDrawn 1 (nI a) (nI b) h) (LOK h0 G.2.2.1) := by
  have k0 := cO_pos (evI (G.2.2.1 a))
  have k1 := cO_64 (evI (G.2.2.1 a))
  have k2 := cT_len (evI (G.2.2.1 a))
  have k3 := dep_3 (evI (G.2.2.1 a))
  have k4 := dep_0 (R := evI (G.2.2.1 a))
  have k5 := size_1 (R := evI (G.2.2.1 a))
  have k6 : ¬ cR (evI (G.2.2.1 a)) < cO (evI (G.2.2.1 a)) → 0 < (cT (evI (G.2.2.1 a))).length := fun c => by
    have := (HF_c (evI (G.2.2.1 a))).lt
    omega
  refine c_dsize W ha (fun h1 W1 => c_leaves W1 ha (fun h2 W2 => c_depth W2 ha (fun h3 W3 => c_rows W3 ha (fun h4 W4 => ?_))))
  have ed : dpi (cO (evI (G.2.2.1 a))) (dps (cO (evI (G.2.2.1 a))) (cT (evI (G.2.2.1 a)))) (cR (evI (G.2.2.1 a))) = dep (evI (G.2.2.1 a)) := rfl
  rw [ed]
  have last := dr100 W4 ha hb
  generalize cR (evI (G.2.2.1 a)) = r at k4 k5 k6
  generalize dep (evI (G.2.2.1 a)) = d at k3 k4 ⊢
  generalize cO (evI (G.2.2.1 a)) = o at k0 k1 k4 k5 k6 last ⊢
  generalize (cT (evI (G.2.2.1 a))).length = t at k2 k5 k6 last ⊢
  have n22 : nI o + 22 = nI (o + 22) := nI_add o 22
  refine Tr.neg (nI_nle k0 (by omega)) (Tr.neg (nI_ge (b := 65) (by omega) (by decide)) (Tr.neg (nI_nlt (a := o + t) (b := o) (by omega) (by omega)) ?_))
  rw [n22]
  refine Tr.neg (nI_ge (a := o + t) (b := o + 22) (by omega) (by omega)) (Tr.neg (nI_pos (by omega)) (Tr.neg (nI_ge (a := d) (b := 4) (by omega) (by decide)) (Tr.cs (fun c => ?_) (fun c => ?_))))
  · have c0 : d = 0 := (nI_eq (b := 0) (by omega) (by decide)).mp c
    have hs := k5 (k4.mp c0)
    have t0 : t = 0 := by omega
    have o1 : o = 1 := by omega
    subst t0 o1
    subst c0
    exact Tr.pos rfl (Tr.pos rfl (Tr.neg (by decide) (Tr.pos rfl last)))
  · have c0 : ¬ d = 0 := fun z => c (by rw [z]; rfl)
    have ht := k6 (fun z => c0 (k4.mpr z))
    have ne : ¬ nI (o + t) = nI o := fun z => by
      have := (nI_eq (a := o + t) (b := o) (by omega) (by omega)).mp z
      omega
    exact Tr.neg ne (Tr.pos rfl (Tr.pos (nI_lt (a := 0) (b := d) (by omega) (by omega)) last))
end LDR

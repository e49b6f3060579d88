/-! TABLES -/
def vcn (c : Nat → Nat) (x : Nat) : Nat → Nat
  | 0 => 0
  | n + 1 => if c n = x then vcn c x n + 1 else vcn c x n
def mcF (c : Nat → Nat) : Nat → Nat × Nat
  | 0 => (c 0, 0)
  | n + 1 => if vcn c (c n) 4 ≤ (mcF c n).2 then mcF c n else (c n, vcn c (c n) 4)
def mainN (c : Nat → Nat) : Nat := (mcF c 4).1
theorem vcn_le (c : Nat → Nat) (x : Nat) : ∀ n, vcn c x n ≤ n := by
  intro n
  induction n with
  | zero => exact Nat.le_refl _
  | succ n ih => unfold vcn; split <;> omega
theorem mcF_le (c : Nat → Nat) : ∀ n, (mcF c n).2 ≤ 4 := by
  intro n
  induction n with
  | zero => exact Nat.zero_le _
  | succ n ih => unfold mcF; split; exact ih; exact vcn_le c _ 4
theorem mcF_is (c : Nat → Nat) : ∀ n, n ≤ 4 → ∃ v, v < 4 ∧ (mcF c n).1 = c v := by
  intro n
  induction n with
  | zero => intro _; exact ⟨0, by decide, rfl⟩
  | succ n ih =>
    intro h
    unfold mcF
    split
    · exact ih (by omega)
    · exact ⟨n, by omega, rfl⟩
theorem mainN_is (c : Nat → Nat) : ∃ v, v < 4 ∧ mainN c = c v := mcF_is c 4 (Nat.le_refl _)
def wtI (f : Nat) : Int32 := nI (if f = 0 then 25 else if f = 1 then 5 else 1)
/-- the rows of the children of the values below n, but the main child's -/
def visK (r : Nat → Int32 → List (Int32 × Nat)) (f : Nat) (c : Nat → Nat) (mc : Nat) (q : Int32) : Nat → List (Int32 × Nat)
  | 0 => []
  | v + 1 => visK r f c mc q v ++ (if c v = mc then [] else r (c v) (q + (nI v - 4) * wtI f))
def chl (T : List TE) (k : Nat) : Nat → Nat := fun v => (T.getD k (0, [])).2.getD v 0
def vis (o : Nat) (T : List TE) : Nat → Nat → Int32 → List (Int32 × Nat)
  | 0, _, _ => []
  | m + 1, i, q => if i < o then [(q, i)] else visK (vis o T m) (T.getD (i - o) (0, [])).1 (chl T (i - o)) (mainN (chl T (i - o))) q 4 ++ vis o T m (mainN (chl T (i - o))) q
theorem visK_len {r : Nat → Int32 → List (Int32 × Nat)} {f : Nat} {c : Nat → Nat} {mc : Nat} {q : Int32} {B : Nat} (hr : ∀ i q, (r i q).length ≤ B) : ∀ n, (visK r f c mc q n).length ≤ B * n := by
  intro n
  induction n with
  | zero => exact Nat.zero_le _
  | succ n ih =>
    unfold visK
    rw [List.length_append, Nat.mul_succ]
    have : (if c n = mc then [] else r (c n) (q + (nI n - 4) * wtI f)).length ≤ B := by
      split
      · exact Nat.zero_le _
      · exact hr _ _
    omega
theorem visK_len2 {r : Nat → Int32 → List (Int32 × Nat)} {f : Nat} {c : Nat → Nat} {mc : Nat} {q : Int32} {B : Nat} (hr : ∀ i q, (r i q).length ≤ B) {v0 : Nat} (h0 : c v0 = mc) : ∀ n, v0 < n → (visK r f c mc q n).length + B ≤ B * n := by
  intro n
  induction n with
  | zero => intro h; omega
  | succ n ih =>
    intro h
    unfold visK
    rw [List.length_append, Nat.mul_succ]
    by_cases e : v0 = n
    · subst e
      rw [if_pos h0]
      have := visK_len (f := f) (c := c) (mc := mc) (q := q) hr v0
      simp only [List.length_nil]
      omega
    · have := ih (by omega)
      have : (if c n = mc then [] else r (c n) (q + (nI n - 4) * wtI f)).length ≤ B := by
        split
        · exact Nat.zero_le _
        · exact hr _ _
      omega
theorem vis_len (o : Nat) (T : List TE) : ∀ m i q, (vis o T (m + 1) i q).length ≤ 4 ^ m := by
  intro m
  induction m with
  | zero =>
    intro i q
    unfold vis
    split
    · exact Nat.le_refl _
    · have h := visK_len (r := vis o T 0) (f := (T.getD (i - o) (0, [])).1) (c := chl T (i - o)) (mc := mainN (chl T (i - o))) (q := q) (B := 0) (fun i q => Nat.le_refl _) 4
      rw [List.length_append]
      show _ + 0 ≤ _
      omega
  | succ m ih =>
    intro i q
    unfold vis
    split
    · exact Nat.one_le_pow _ _ (by decide)
    · obtain ⟨v0, hv, e⟩ := mainN_is (chl T (i - o))
      have h := visK_len2 (r := vis o T (m + 1)) (f := (T.getD (i - o) (0, [])).1) (c := chl T (i - o)) (mc := mainN (chl T (i - o))) (q := q) (B := 4 ^ m) ih e.symm 4 hv
      have h2 := ih (mainN (chl T (i - o))) q
      rw [List.length_append, Nat.pow_succ]
      omega
/-- up to the last that has P -/
def kep (P : Nat → Bool) : Nat → Nat
  | 0 => 0
  | n + 1 => if P n then n + 1 else kep P n
theorem kep_le (P : Nat → Bool) : ∀ n, kep P n ≤ n := by
  intro n
  induction n with
  | zero => exact Nat.le_refl _
  | succ n ih => unfold kep; split <;> omega
def hA (x : Int64 × Int64) (a : Nat) : Bool := if a < 64 then bq x.1 a else bq x.2 (a - 64)
def tot (x : Int64 × Int64) : Nat := fb_ct (bq x.1) 64 + fb_ct (bq x.2) 64
def aaN (x : Int64 × Int64) (idx : Int32) : Int32 := if lea (fun n => hA x n && decide (nI (fb_ct (hA x) n) = idx)) 125 < 125 then nI (lea (fun n => hA x n && decide (nI (fb_ct (hA x) n) = idx)) 125) else -1
section X0
variable {h : Hp} {s : Nat} {D : List (Int64 × Int64)} {T : List TE} {r : Nat}
theorem DgOK.fr {A : Nat → Prop} {h1 : Hp} (G : DgOK h s D T r) (F : Fr A h h1) (hA : ∀ a, 46 + 22 * s ≤ a → a ≤ 51 + 22 * s → ¬ A a) : DgOK h1 s D T r := by
  unfold DgOK DgL DgT
  rw [F.I (hA (46 + 22 * s) (by omega) (by omega)), F.L (hA (47 + 22 * s) (by omega) (by omega)), F.L (hA (48 + 22 * s) (by omega) (by omega)), F.I (hA (49 + 22 * s) (by omega) (by omega)), F.I (hA (50 + 22 * s) (by omega) (by omega)), F.I (hA (51 + 22 * s) (by omega) (by omega))]
  exact G
theorem dg_chl (G : DgOK h s D T r) {k v : Nat} (hk : k < T.length) (hv : v < 4) : gI h (51 + 22 * s) (4 * (D.length + k) + v) = nI (chl T k v) ∧ chl T k v < D.length + k := by
  have hx := List.getElem?_eq_getElem hk
  have e : T.getD k (0, []) = T[k] := by rw [List.getD_eq_getElem?_getD, hx]; rfl
  unfold chl
  rw [e]
  exact ⟨(G.2.1.2 k _ hx).2.1 v hv, (G.2.2.1 k _ hx).2.2 v hv⟩
theorem dg_fld (G : DgOK h s D T r) {k : Nat} (hk : k < T.length) : gI h (49 + 22 * s) (D.length + k) = nI (T.getD k (0, [])).1 ∧ (T.getD k (0, [])).1 < 3 := by
  have hx := List.getElem?_eq_getElem hk
  have e : T.getD k (0, []) = T[k] := by rw [List.getD_eq_getElem?_getD, hx]; rfl
  rw [e]
  exact ⟨(G.2.1.2 k _ hx).1, (G.2.2.1 k _ hx).1⟩
theorem X0_child (L : Lay h) (hs : s < 4) (G : DgOK h s D T r) {k v : Nat} (hk : k < T.length) (hv : v < 4) : f_X0_childOf (46 + 22 * s) (nI (D.length + k)) (nI v) h = some (nI (chl T k v), h) := by
  have h1 := G.2.2.2.2.2.1
  have h2 := G.2.2.2.2.2.2
  rw [X0_childOf L hs (by omega) hv, (dg_chl G hk hv).1]
theorem X0_vlt (L : Lay h) (hs : s < 4) (G : DgOK h s D T r) {k x : Nat} (hk : k < T.length) (hx : x < 2 ^ 31) : f_X0_valuesLeadingTo (46 + 22 * s) (nI (D.length + k)) (nI x) h = some (nI (vcn (chl T k) x 4), h) := by
  apply Tr.of_eq
  have h1 := G.2.2.2.2.2.1
  refine Tr.up (N := 4) (J := fun v y => y = (nI (vcn (chl T k) x v), nI v, h)) ?_ ?_ (p := 0) rfl (Nat.zero_le _) (by omega)
  · intro v y kk hv hJ hk'
    subst hJ
    dsimp only
    have hb := (dg_chl G hk hv).2
    have h2 := G.2.2.2.2.2.2
    refine Tr.neg (nI_ge (b := 4) hv (by decide)) (Tr.ck (Lso_46 L hs) (Tr.be (X0_child L hs G hk hv) ?_))
    refine Tr.cs (fun c => Tr.nmx (Tr.nmx (hk' _ ?_))) (fun c => Tr.nmx (hk' _ ?_))
    · have c := (nI_eq (by omega) hx).mp c
      rw [nI_1, nI_1]
      show _ = (nI (if chl T k v = x then _ else _), _, h)
      rw [if_pos c]
    · have c : ¬ chl T k v = x := fun e => c (by rw [e])
      rw [nI_1]
      show _ = (nI (if chl T k v = x then _ else _), _, h)
      rw [if_neg c]
  · intro y kk hJ
    subst hJ
    exact Tr.pos (nI_le (b := 4) (Nat.le_refl _) (by decide)) (Tr.ret ⟨rfl, rfl⟩)
theorem X0_main (L : Lay h) (hs : s < 4) (G : DgOK h s D T r) {k : Nat} (hk : k < T.length) : f_X0_mainChildOf (46 + 22 * s) (nI (D.length + k)) h = some (nI (mainN (chl T k)), h) := by
  apply Tr.of_eq
  have h1 := G.2.2.2.2.2.1
  have h2 := G.2.2.2.2.2.2
  refine Tr.ck (Lso_46 L hs) (Tr.be (X0_child L hs G hk (v := 0) (by decide)) ?_)
  refine Tr.up (N := 4) (J := fun v y => y = (nI (mcF (chl T k) v).1, nI (mcF (chl T k) v).2, nI v, h)) ?_ ?_ (p := 0) rfl (Nat.zero_le _) (by omega)
  · intro v y kk hv hJ hk'
    subst hJ
    dsimp only
    have hb := (dg_chl G hk hv).2
    have hm := mcF_le (chl T k) v
    have hv4 := vcn_le (chl T k) (chl T k v) 4
    refine Tr.neg (nI_ge (b := 4) hv (by decide)) (Tr.ck (Lso_46 L hs) (Tr.be (X0_child L hs G hk hv) (Tr.ck (Lso_46 L hs) (Tr.be (X0_vlt L hs G hk (by omega)) ?_))))
    refine Tr.cs (fun c => Tr.nmx (hk' _ ?_)) (fun c => Tr.nmx (hk' _ ?_))
    · have c := (nI_leI (by omega) (by omega)).mp c
      rw [nI_1]
      show _ = (nI (if _ ≤ (mcF (chl T k) v).2 then _ else _ : Nat × Nat).1, nI (if _ ≤ (mcF (chl T k) v).2 then _ else _ : Nat × Nat).2, _, h)
      rw [if_pos c]
    · have c : ¬ vcn (chl T k) (chl T k v) 4 ≤ (mcF (chl T k) v).2 := fun e => c ((nI_leI (by omega) (by omega)).mpr e)
      rw [nI_1]
      show _ = (nI (if _ ≤ (mcF (chl T k) v).2 then _ else _ : Nat × Nat).1, nI (if _ ≤ (mcF (chl T k) v).2 then _ else _ : Nat × Nat).2, _, h)
      rw [if_neg c]
  · intro y kk hJ
    subst hJ
    exact Tr.pos (nI_le (b := 4) (Nat.le_refl _) (by decide)) (Tr.ret ⟨rfl, rfl⟩)
theorem X0_hasAction (L : Lay h) (hs : s < 4) (G : DgOK h s D T r) {i a : Nat} {x : Int64 × Int64} (hi : D[i]? = some x) (ha : a < 125) : f_X0_hasAction (46 + 22 * s) (nI i) (nI a) h = some (bi (hA x a), h) := by
  apply Tr.of_eq
  have h1 := G.2.2.2.2.2.1
  have hl := (List.getElem?_eq_some_iff.mp hi).1
  obtain ⟨g1, g2⟩ := G.1.2.1 i x hi
  refine Tr.neg (nI_pos (by omega)) (Tr.pos (nI_lt (b := 64) (by omega) (by decide)) ?_)
  unfold hA
  by_cases c : a < 64
  · rw [if_pos c]
    refine Tr.neg (nI_ge (b := 64) c (by decide)) (Tr.ck (Lso_46 L hs) (Tr.gp (Lsp_46_0 L hs) (Tr.ca (Lsa_47 L hs (by omega)) ?_)))
    rw [nI_clamp (by omega), g1]
    exact Tr.be (X9_holds c h) (Tr.bz (bi_01 _) (Tr.ret ⟨rfl, rfl⟩))
  · rw [if_neg c]
    refine Tr.pos (nI_le (a := 64) (by omega) (by omega)) (Tr.ck (Lso_46 L hs) (Tr.gp (Lsp_46_1 L hs) (Tr.ca (Lsa_48 L hs (by omega)) ?_)))
    have es : nI a - (64 : Int32) = nI (a - 64) := pk_sub (a := a) (b := 64) (by omega)
    rw [nI_clamp (by omega), g2, es]
    exact Tr.be (X9_holds (by omega) h) (Tr.bz (bi_01 _) (Tr.ret ⟨rfl, rfl⟩))
theorem X0_actionTotal (L : Lay h) (hs : s < 4) (G : DgOK h s D T r) {i : Nat} {x : Int64 × Int64} (hi : D[i]? = some x) : f_X0_actionTotal (46 + 22 * s) (nI i) h = some (nI (tot x), h) := by
  apply Tr.of_eq
  have h1 := G.2.2.2.2.2.1
  have hl := (List.getElem?_eq_some_iff.mp hi).1
  obtain ⟨g1, g2⟩ := G.1.2.1 i x hi
  refine Tr.neg (nI_pos (by omega)) (Tr.pos (nI_lt (b := 64) (by omega) (by decide)) (Tr.ck (Lso_46 L hs) (Tr.gp (Lsp_46_0 L hs) (Tr.ca (Lsa_47 L hs (by omega)) ?_))))
  rw [nI_clamp (by omega), g1]
  refine Tr.be (bitCount_eq _ h) (Tr.ck (Lso_46 L hs) (Tr.gp (Lsp_46_1 L hs) (Tr.ca (Lsa_48 L hs (by omega)) ?_)))
  rw [g2]
  refine Tr.be (bitCount_eq _ h) (Tr.ret ⟨?_, rfl⟩)
  rw [popF_ct, popF_ct, nI_add]
  rfl
theorem X0_actionAt (L : Lay h) (hs : s < 4) (G : DgOK h s D T r) {i : Nat} {x : Int64 × Int64} {idx : Int32} (hi : D[i]? = some x) : f_X0_actionAt (46 + 22 * s) (nI i) idx h = some (aaN x idx, h) := by
  apply Tr.of_eq
  refine Tr.up (N := 125) (J := fun n y => y = (nI (fb_ct (hA x) n), nI n, h) ∧ ∀ j, j < n → (hA x j && decide (nI (fb_ct (hA x) j) = idx)) = false) ?_ ?_ (p := 0) ⟨rfl, fun j hj => absurd hj (Nat.not_lt_zero _)⟩ (Nat.zero_le _) (by omega)
  · intro n y kk hn hJ hk'
    obtain ⟨rfl, hj⟩ := hJ
    dsimp only
    refine Tr.neg (nI_ge (b := 125) hn (by decide)) (Tr.ck (Lso_46 L hs) (Tr.be (X0_hasAction L hs G hi hn) ?_))
    refine Tr.cs (fun c => Tr.nmx (hk' _ ⟨?_, fun j hj2 => ?_⟩)) (fun c => ?_)
    · have c := bi_0.mp c
      rw [nI_1, fb_ct_succ, if_neg (by rw [c]; decide)]; rfl
    · by_cases e : j = n
      · subst e; rw [bi_0.mp c]; rfl
      · exact hj j (by omega)
    · have c : hA x n = true := by
        cases y : hA x n with
        | true => rfl
        | false => exact absurd (by rw [y]; rfl) c
      refine Tr.cs (fun c2 => Tr.ret ⟨?_, rfl⟩) (fun c2 => Tr.nmx (Tr.nmx (hk' _ ⟨?_, fun j hj2 => ?_⟩)))
      · have e : lea (fun n => hA x n && decide (nI (fb_ct (hA x) n) = idx)) 125 = n := lea_eq hn (by rw [c, decide_eq_true c2]; rfl) hj
        unfold aaN
        rw [e, if_pos hn]
      · rw [nI_1, nI_1, fb_ct_succ, if_pos c]
      · by_cases e : j = n
        · subst e; rw [decide_eq_false c2, Bool.and_false]
        · exact hj j (by omega)
  · intro y kk hJ
    obtain ⟨rfl, hj⟩ := hJ
    refine Tr.pos (nI_le (b := 125) (Nat.le_refl _) (by decide)) (Tr.ret ⟨?_, rfl⟩)
    have e : lea (fun n => hA x n && decide (nI (fb_ct (hA x) n) = idx)) 125 = 125 := lea_all hj
    unfold aaN
    rw [e]
    rfl
end X0

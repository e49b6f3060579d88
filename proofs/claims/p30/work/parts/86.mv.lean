/-! WAYS THROUGH A DIAGRAM: levels, heights, rows -/
theorem gD_app {α : Type} {L M : List α} {d : α} {k : Nat} (h : k < L.length) : (L ++ M).getD k d = L.getD k d := by
  rw [List.getD_eq_getElem?_getD, List.getD_eq_getElem?_getD, List.getElem?_append_left h]
/-- n tests at most on a way from i, their fields from 3 - n on -/
def HF (o : Nat) (T : List TE) : Nat → Nat → Prop
  | 0, i => i < o
  | n + 1, i => HF o T n i ∨ (o ≤ i ∧ i - o < T.length ∧ (T.getD (i - o) (0, [])).1 = 2 - n ∧ (T.getD (i - o) (0, [])).2.length = 4 ∧ ∀ v, v < 4 → HF o T n (chl T (i - o) v))
theorem HF.app {o : Nat} {T M : List TE} : ∀ {n i : Nat}, HF o T n i → HF o (T ++ M) n i := by
  intro n
  induction n with
  | zero => intro i h; exact h
  | succ n ih =>
    intro i h
    rcases h with h | ⟨h1, h2, h3, h4, h5⟩
    · exact Or.inl (ih h)
    · refine Or.inr ⟨h1, by rw [List.length_append]; omega, by rw [gD_app h2]; exact h3, by rw [gD_app h2]; exact h4, fun v hv => ?_⟩
      have e : chl (T ++ M) (i - o) v = chl T (i - o) v := by unfold chl; rw [gD_app h2]
      rw [e]; exact ih (h5 v hv)
theorem HF.up {o : Nat} {T : List TE} {n m i : Nat} (h : HF o T n i) (hm : n ≤ m) : HF o T m i := by
  induction m with
  | zero => have : n = 0 := by omega
            subst this; exact h
  | succ m ih =>
    by_cases c : n = m + 1
    · subst c; exact h
    · exact Or.inl (ih (by omega))
theorem HF.lf {o : Nat} {T : List TE} {n i : Nat} (h : i < o) : HF o T n i := HF.up (n := 0) h (Nat.zero_le _)
theorem HF.c1 {o : Nat} {T : List TE} : ∀ {n i : Nat}, HF o T n i → ¬ i < o → ∃ m, n = m + 1 ∧ i - o < T.length ∧ (T.getD (i - o) (0, [])).1 < 3 ∧ (T.getD (i - o) (0, [])).2.length = 4 ∧ ∀ v, v < 4 → HF o T m (chl T (i - o) v) := by
  intro n
  induction n with
  | zero => intro i h c; exact absurd h c
  | succ n ih =>
    intro i h c
    rcases h with h | ⟨h1, h2, h3, h4, h5⟩
    · obtain ⟨m, e, a1, a2, a3, a4⟩ := ih h c
      exact ⟨n, rfl, a1, a2, a3, fun v hv => (a4 v hv).up (by omega)⟩
    · exact ⟨n, rfl, h2, by omega, h4, h5⟩
theorem HF.lt {o : Nat} {T : List TE} {n i : Nat} (h : HF o T n i) : i < o + T.length := by
  by_cases c : i < o
  · omega
  · obtain ⟨m, _, a, _⟩ := h.c1 c; omega
/-- a layer: field 2 - n over blocks of level n -/
theorem HF.nid {o n N : Nat} {b : Nat → Nat} {T : List TE} (hT : ∀ j, j < 4 * N → HF o T n (b j)) {k : Nat} (hk : k < N) : HF o (tss (2 - n) b T N) (n + 1) (nid o (2 - n) b (tss (2 - n) b T N) k) := by
  obtain ⟨M, hM⟩ := tss_pre (2 - n) b T (Nat.zero_le N)
  have hM : tss (2 - n) b T N = T ++ M := hM
  unfold Jvm.Pilot.@@N@@.nid
  cases ha : alq b k with
  | true => rw [if_pos rfl, hM]; exact Or.inl (hT _ (by omega)).app
  | false =>
    rw [if_neg (by decide)]
    have hm := tss_mem (2 - n) b T hk ha
    have hl := ixo_lt hm
    have hg := ixo_get hm
    generalize ixo (tss (2 - n) b T N) (tsk (2 - n) b k) = x at hl hg
    have e : o + x - o = x := by omega
    have eg : (tss (2 - n) b T N).getD x (0, []) = tsk (2 - n) b k := by rw [List.getD_eq_getElem?_getD, hg]; rfl
    refine Or.inr ⟨by omega, by omega, by rw [e, eg]; rfl, by rw [e, eg]; rfl, fun v hv => ?_⟩
    have ec : chl (tss (2 - n) b T N) (o + x - o) v = b (4 * k + v) := by unfold chl; rw [e, eg]; exact tsk_v _ _ _ v hv
    rw [ec, hM]; exact (hT _ (by omega)).app
theorem TOK.tss {o f n : Nat} {b : Nat → Nat} {T : List TE} (K : TOK o T) (hf : f < 3) (hb : ∀ j, j < 4 * n → b j < o + T.length) : TOK o (tss f b T n) := by
  have main : ∀ m, m ≤ n → TOK o (Jvm.Pilot.@@N@@.tss f b T m) := by
    intro m
    induction m with
    | zero => intro _; exact K
    | succ m ih =>
      intro hm
      have K1 := ih (by omega)
      rw [tss_s]
      by_cases c : alq b m = true
      · rw [if_pos c]; exact K1
      · rw [if_neg c]
        unfold insA
        by_cases c2 : tsk f b m ∈ Jvm.Pilot.@@N@@.tss f b T m
        · rw [if_pos c2]; exact K1
        · rw [if_neg c2]
          obtain ⟨M, hM⟩ := tss_pre f b T (Nat.zero_le m)
          have hM : Jvm.Pilot.@@N@@.tss f b T m = T ++ M := hM
          have hl : T.length ≤ (Jvm.Pilot.@@N@@.tss f b T m).length := by rw [hM, List.length_append]; omega
          intro k e hk
          have hi := (List.getElem?_eq_some_iff.mp hk).1
          rw [List.length_append, List.length_singleton] at hi
          by_cases c3 : k = (Jvm.Pilot.@@N@@.tss f b T m).length
          · rw [List.getElem?_append_right (by omega), c3, Nat.sub_self] at hk
            cases hk
            refine ⟨hf, rfl, fun v hv => ?_⟩
            rw [tsk_v f b m v hv, c3]
            have := hb (4 * m + v) (by omega)
            omega
          · rw [List.getElem?_append_left (by omega)] at hk
            exact K1 k e hk
  exact main n (Nat.le_refl _)
section DG
variable {R : Nat → Int64} {o : Nat}
theorem HF_b3 (ho : cO R ≤ o) {T : List TE} {p : Nat} (hp : p < 64) : HF o T 0 (dB3 R [] p) := Nat.lt_of_lt_of_le (dB3_lt R hp) ho
theorem HF_b2 (ho : cO R ≤ o) {k : Nat} (hk : k < 16) : HF o (dT2 R [] []) 1 (dB2 o R [] [] k) := HF.nid (n := 0) (N := 16) (b := dB3 R []) (T := []) (fun j hj => HF_b3 ho (by omega)) hk
theorem HF_b1 (ho : cO R ≤ o) {k : Nat} (hk : k < 4) : HF o (dT1 o R [] []) 2 (dB1 o R [] [] k) := HF.nid (n := 1) (N := 4) (b := dB2 o R [] []) (T := dT2 R [] []) (fun j hj => HF_b2 ho (by omega)) hk
theorem HF_rt (ho : cO R ≤ o) : HF o (dT0 o R [] []) 3 (dRt o R [] []) := HF.nid (n := 2) (N := 1) (b := dB1 o R [] []) (T := dT1 o R [] []) (fun j hj => HF_b1 ho (by omega)) (k := 0) (by decide)
theorem TOK_d2 (ho : cO R ≤ o) : TOK o (dT2 R [] []) := TOK.tss (f := 2) (n := 16) (b := dB3 R []) (T := []) (fun k e hk => by cases hk) (by decide) (fun j hj => (HF_b3 (T := []) ho (by omega)).lt)
theorem TOK_d1 (ho : cO R ≤ o) : TOK o (dT1 o R [] []) := TOK.tss (f := 1) (n := 4) (b := dB2 o R [] []) (T := dT2 R [] []) (TOK_d2 ho) (by decide) (fun j hj => (HF_b2 ho (by omega)).lt)
theorem TOK_d0 (ho : cO R ≤ o) : TOK o (dT0 o R [] []) := TOK.tss (f := 0) (n := 1) (b := dB1 o R [] []) (T := dT1 o R [] []) (TOK_d1 ho) (by decide) (fun j hj => (HF_b1 ho (by omega)).lt)
theorem HF_c (R : Nat → Int64) : HF (cO R) (cT R) 3 (cR R) := HF_rt (Nat.le_refl _)
theorem TOK_c (R : Nat → Int64) : TOK (cO R) (cT R) := TOK_d0 (Nat.le_refl _)
end DG
/-! depths by walks -/
theorem mxF_ge {g : Nat → Nat} : ∀ {n j : Nat}, j < n → g j ≤ mxF g n := by
  intro n
  induction n with
  | zero => intro j h; omega
  | succ n ih =>
    intro j h
    unfold mxF
    by_cases c : j = n
    · subst c; split <;> omega
    · have := ih (show j < n by omega); split <;> omega
theorem mxF_at {g : Nat → Nat} : ∀ {n : Nat}, 0 < n → ∃ j, j < n ∧ mxF g n = g j := by
  intro n
  induction n with
  | zero => intro h; omega
  | succ n ih =>
    intro _
    unfold mxF
    split
    · exact ⟨n, by omega, rfl⟩
    · by_cases c : n = 0
      · subst c
        rename_i h
        have h : ¬ 0 < g 0 := h
        exact ⟨0, by omega, by show 0 = g 0; omega⟩
      · obtain ⟨j, hj, e⟩ := ih (by omega)
        exact ⟨j, by omega, e⟩
/-- the tests on a packet's way -/
def wl (o : Nat) (T : List TE) (p : Nat) : Nat → Nat → Nat
  | 0, _ => 0
  | n + 1, i => if i < o then 0 else wl o T p n (chl T (i - o) (vlN p (T.getD (i - o) (0, [])).1)) + 1
theorem wl_s {o : Nat} {T : List TE} {p : Nat} : ∀ {n i : Nat}, HF o T n i → wl o T p (n + 1) i = wl o T p n i := by
  intro n
  induction n with
  | zero => intro i h; exact if_pos h
  | succ n ih =>
    intro i h
    by_cases c : i < o
    · have e1 : wl o T p (n + 1 + 1) i = 0 := if_pos c
      have e2 : wl o T p (n + 1) i = 0 := if_pos c
      rw [e1, e2]
    · have e1 : wl o T p (n + 1 + 1) i = wl o T p (n + 1) (chl T (i - o) (vlN p (T.getD (i - o) (0, [])).1)) + 1 := if_neg c
      have e2 : wl o T p (n + 1) i = wl o T p n (chl T (i - o) (vlN p (T.getD (i - o) (0, [])).1)) + 1 := if_neg c
      obtain ⟨m, em, _, _, _, hc⟩ := h.c1 c
      have : m = n := by omega
      subst this
      rw [e1, e2, ih (hc _ (vlN_lt _ _))]
theorem dps_st {o : Nat} {T : List TE} {e : TE} {i : Nat} (h : i < o + T.length) : dpi o (dps o (T ++ [e])) i = dpi o (dps o T) i := by
  rw [dps_snoc]
  unfold dpi
  by_cases c : i < o
  · rw [if_pos c, if_pos c]
  · rw [if_neg c, if_neg c, gD_app (by rw [dps_len]; omega)]
theorem dpE_st {o : Nat} {T : List TE} {e x : TE} (h : ∀ v, v < 4 → e.2.getD v 0 < o + T.length) : dpE o (dps o (T ++ [x])) e = dpE o (dps o T) e := by
  unfold dpE mx4
  rw [mxF_congr (fun j hj => dps_st (h j hj))]
theorem dps_at {o : Nat} : ∀ T : List TE, TOK o T → ∀ k e, T[k]? = some e → (dps o T).getD k 0 = dpE o (dps o T) e := by
  refine snoc_ind ?_ (fun T x ih => ?_)
  · intro _ k e hk; cases hk
  · intro K k e hk
    have hi := (List.getElem?_eq_some_iff.mp hk).1
    rw [List.length_append, List.length_singleton] at hi
    have hb := (K k e hk).2.2
    have e1 : dpE o (dps o (T ++ [x])) e = dpE o (dps o T) e := dpE_st (fun v hv => by have := hb v hv; omega)
    rw [e1]
    by_cases c : k = T.length
    · rw [List.getElem?_append_right (by omega), c, Nat.sub_self] at hk
      cases hk
      rw [dps_snoc, List.getD_eq_getElem?_getD, List.getElem?_append_right (by rw [dps_len]; omega), dps_len, c, Nat.sub_self]
      rfl
    · rw [List.getElem?_append_left (by omega)] at hk
      have K1 : TOK o T := fun k2 e2 h2 => K k2 e2 (by rw [List.getElem?_append_left (List.getElem?_eq_some_iff.mp h2).1]; exact h2)
      rw [dps_snoc, gD_app (by rw [dps_len]; omega)]
      exact ih K1 k e hk
section WL
variable {o : Nat} {T : List TE}
theorem dpi_lf {D : List Nat} {i : Nat} (h : i < o) : dpi o D i = 0 := if_pos h
theorem dpi_ts (K : TOK o T) {i : Nat} (h : ¬ i < o) (h2 : i - o < T.length) : dpi o (dps o T) i = mxF (fun v => dpi o (dps o T) (chl T (i - o) v)) 4 + 1 := by
  have e : dpi o (dps o T) i = (dps o T).getD (i - o) 0 := if_neg h
  rw [e, dps_at T K (i - o) _ (gD_get T (0, []) h2)]
  rfl
theorem wl_le (K : TOK o T) {p : Nat} : ∀ {n i : Nat}, HF o T n i → wl o T p n i ≤ dpi o (dps o T) i := by
  intro n
  induction n with
  | zero => intro i _; exact Nat.zero_le _
  | succ n ih =>
    intro i h
    by_cases c : i < o
    · have e1 : wl o T p (n + 1) i = 0 := if_pos c
      rw [e1]; exact Nat.zero_le _
    · have e1 : wl o T p (n + 1) i = wl o T p n (chl T (i - o) (vlN p (T.getD (i - o) (0, [])).1)) + 1 := if_neg c
      obtain ⟨m, em, hl, _, _, hc⟩ := h.c1 c
      have : m = n := by omega
      subst this
      rw [e1, dpi_ts K c hl]
      have h1 := ih (hc _ (vlN_lt p (T.getD (i - o) (0, [])).1))
      have h2 := mxF_ge (g := fun v => dpi o (dps o T) (chl T (i - o) v)) (vlN_lt p (T.getD (i - o) (0, [])).1)
      omega
theorem wvN_vl {p f v : Nat} (hf : f < 3) (hp : p < 64) (hv : v < 4) : vlN (wvN p f v) f = v ∧ ∀ g, g < f → vlN (wvN p f v) g = vlN p g := by
  rcases (by omega : f = 0 ∨ f = 1 ∨ f = 2) with rfl | rfl | rfl
  · refine ⟨?_, fun g hg => by omega⟩
    show (p % 16 + 16 * v) / 16 % 4 = v
    omega
  · refine ⟨?_, fun g hg => ?_⟩
    · show (p / 16 * 16 + p % 4 + 4 * v) / 4 % 4 = v
      omega
    · have : g = 0 := by omega
      subst this
      show (p / 16 * 16 + p % 4 + 4 * v) / 16 % 4 = p / 16 % 4
      omega
  · refine ⟨?_, fun g hg => ?_⟩
    · show (p / 4 * 4 + v) % 4 = v
      omega
    · rcases (by omega : g = 0 ∨ g = 1) with rfl | rfl
      · show (p / 4 * 4 + v) / 16 % 4 = p / 16 % 4
        omega
      · show (p / 4 * 4 + v) / 4 % 4 = p / 4 % 4
        omega
theorem wl_ex (K : TOK o T) : ∀ {n : Nat}, n ≤ 3 → ∀ {i : Nat}, HF o T n i → ∀ p0, p0 < 64 → ∃ p, p < 64 ∧ (∀ f, f < 3 - n → vlN p f = vlN p0 f) ∧ wl o T p n i = dpi o (dps o T) i := by
  intro n
  induction n with
  | zero => intro _ i h p0 hp; exact ⟨p0, hp, fun _ _ => rfl, (dpi_lf h).symm⟩
  | succ n ih =>
    intro hn i h p0 hp
    by_cases c : i < o
    · refine ⟨p0, hp, fun _ _ => rfl, ?_⟩
      rw [dpi_lf c]
      exact if_pos c
    · rcases h with h | ⟨h1, h2, h3, h4, h5⟩
      · obtain ⟨p, hp1, hp2, hp3⟩ := ih (by omega) h p0 hp
        exact ⟨p, hp1, fun f hf => hp2 f (by omega), by rw [wl_s h]; exact hp3⟩
      · obtain ⟨v, hv, ev⟩ := mxF_at (g := fun v => dpi o (dps o T) (chl T (i - o) v)) (n := 4) (by decide)
        obtain ⟨w1, w2⟩ := wvN_vl (p := p0) (f := 2 - n) (v := v) (by omega) hp hv
        obtain ⟨p, hp1, hp2, hp3⟩ := ih (by omega) (h5 v hv) _ (wvN_lt (2 - n) hp hv)
        refine ⟨p, hp1, fun f hf => by rw [hp2 f (by omega), w2 f (by omega)], ?_⟩
        have e1 : wl o T p (n + 1) i = wl o T p n (chl T (i - o) (vlN p (T.getD (i - o) (0, [])).1)) + 1 := if_neg c
        rw [e1, h3, hp2 (2 - n) (by omega), w1, hp3, dpi_ts K c h2, ev]
theorem dp_walk (K : TOK o T) {i : Nat} (h : HF o T 3 i) : mxF (fun p => wl o T p 3 i) 64 = dpi o (dps o T) i := by
  obtain ⟨p, hp, _, e⟩ := wl_ex K (Nat.le_refl 3) h 0 (by decide)
  have h1 := mxF_ge (g := fun p => wl o T p 3 i) hp
  have h2 : mxF (fun p => wl o T p 3 i) 64 ≤ dpi o (dps o T) i := mxF_le (fun j _ => wl_le K h)
  omega
end WL
/-! the rows of a walk -/
theorem visK_congr {r r2 : Nat → Int32 → List (Int32 × Nat)} {f : Nat} {c : Nat → Nat} {mc : Nat} {q : Int32} : ∀ {n : Nat}, (∀ v, v < n → ∀ q, r (c v) q = r2 (c v) q) → visK r f c mc q n = visK r2 f c mc q n := by
  intro n
  induction n with
  | zero => intro _; rfl
  | succ n ih =>
    intro h
    unfold visK
    rw [ih (fun v hv => h v (by omega)), h n (by omega)]
theorem vis_lf {o : Nat} {T : List TE} {n i : Nat} {q : Int32} (h : i < o) : vis o T (n + 1) i q = [(q, i)] := if_pos h
theorem vis_ts {o : Nat} {T : List TE} {n i : Nat} {q : Int32} (h : ¬ i < o) : vis o T (n + 1) i q = visK (vis o T n) (T.getD (i - o) (0, [])).1 (chl T (i - o)) (mainN (chl T (i - o))) q 4 ++ vis o T n (mainN (chl T (i - o))) q := if_neg h
theorem vis_fu {o : Nat} {T : List TE} : ∀ {n i : Nat}, HF o T n i → ∀ {q : Int32} {a : Nat}, n + 1 ≤ a → vis o T a i q = vis o T (n + 1) i q := by
  intro n
  induction n with
  | zero =>
    intro i h q a ha
    obtain ⟨b, rfl⟩ : ∃ b, a = b + 1 := ⟨a - 1, by omega⟩
    rw [vis_lf h, vis_lf h]
  | succ n ih =>
    intro i h q a ha
    obtain ⟨b, rfl⟩ : ∃ b, a = b + 1 := ⟨a - 1, by omega⟩
    by_cases c : i < o
    · rw [vis_lf c, vis_lf c]
    · obtain ⟨m, em, _, _, _, hc⟩ := h.c1 c
      have : m = n := by omega
      subst this
      obtain ⟨v0, hv0, e0⟩ := mainN_is (chl T (i - o))
      rw [vis_ts c, vis_ts c, visK_congr (fun v hv q => ih (hc v hv) (a := b) (by omega)), e0, ih (hc v0 hv0) (a := b) (by omega)]
theorem vcn_congr {c c2 : Nat → Nat} {x : Nat} : ∀ {n : Nat}, (∀ v, v < n → c v = c2 v) → vcn c x n = vcn c2 x n := by
  intro n
  induction n with
  | zero => intro _; rfl
  | succ n ih => intro h; unfold vcn; rw [ih (fun v hv => h v (by omega)), h n (by omega)]
theorem mcF_congr {c c2 : Nat → Nat} (h : ∀ v, v < 4 → c v = c2 v) : ∀ {n : Nat}, n ≤ 4 → mcF c n = mcF c2 n := by
  intro n
  induction n with
  | zero => intro _; unfold mcF; rw [h 0 (by decide)]
  | succ n ih => intro hn; unfold mcF; rw [ih (by omega), h n (by omega), vcn_congr h]
theorem mainN_congr {c c2 : Nat → Nat} (h : ∀ v, v < 4 → c v = c2 v) : mainN c = mainN c2 := by unfold mainN; rw [mcF_congr h (Nat.le_refl _)]

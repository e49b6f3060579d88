section CAN
variable {o : Nat} {D : List (Int64 × Int64)} {T : List TE}
/-- what the test at i has below it -/
def TAt (o : Nat) (T : List TE) (n i : Nat) : Prop := o ≤ i ∧ i - o < T.length ∧ (T.getD (i - o) (0, [])).1 = 2 - n ∧ (T.getD (i - o) (0, [])).2.length = 4 ∧ ∀ v, v < 4 → HF o T n (chl T (i - o) v)
theorem sm_ch {n i : Nat} (hn : n ≤ 2) (h : TAt o T n i) {x v : Nat} (hx : x < 64) (hv : v < 4) : sm o D T x n (chl T (i - o) v) = sm o D T (wvN x (2 - n) v) (n + 1) i := by
  obtain ⟨h1, h2, h3, h4, h5⟩ := h
  rw [sm_ts (by omega), h3, (wvN_vl (by omega) hx hv).1]
  exact sm_in (by omega) (h5 v hv) (fun f a b => (wvN_ne (by omega) b hx hv (by omega)).symm)
theorem sm_no {n i : Nat} (hn : n ≤ 2) (h : HF o T n i) {x v : Nat} (hx : x < 64) (hv : v < 4) : sm o D T x n i = sm o D T (wvN x (2 - n) v) (n + 1) i := by
  rw [sm_s h]
  exact sm_in (by omega) h (fun f a b => (wvN_ne (by omega) b hx hv (by omega)).symm)
theorem all4 {K : GTT D.length o T} {i : Nat} (hi : i - o < T.length) (h : ∀ v, v < 4 → chl T (i - o) v = chl T (i - o) 0) : False := by
  refine K.2.1 (i - o) _ (gD_get T (0, []) hi) ⟨?_, ?_, ?_⟩
  · exact (h 1 (by decide)).symm
  · exact (h 2 (by decide)).symm
  · exact (h 3 (by decide)).symm
theorem can (hD : ND D) (K : GTT D.length o T) : ∀ {n : Nat}, n ≤ 3 → ∀ {i j : Nat}, HF o T n i → HF o T n j → (i < o → i < D.length) → (j < o → j < D.length) → (∀ x, x < 64 → sm o D T x n i = sm o D T x n j) → i = j := by
  intro n
  induction n with
  | zero =>
    intro _ i j hi hj bi bj e
    have e := e 0 (by decide)
    have e : D.getD i (0, 0) = D.getD j (0, 0) := e
    exact hD i j _ (gD_get D (0, 0) (bi hi)) (by rw [e]; exact gD_get D (0, 0) (bj hj))
  | succ n ih =>
    intro hn i j hi hj bi bj e
    have cb : ∀ {i : Nat}, i - o < T.length → ∀ v, v < 4 → chl T (i - o) v < o → chl T (i - o) v < D.length := fun {i} h v hv => K.2.2 (i - o) _ (gD_get T (0, []) h) v hv
    rcases hi with hi | hi
    · rcases hj with hj | hj
      · exact ih (by omega) hi hj bi bj (fun x hx => by rw [← sm_s hi, ← sm_s hj]; exact e x hx)
      · exfalso
        have hh : ∀ v, v < 4 → chl T (j - o) v = i := fun v hv => ih (by omega) (hj.2.2.2.2 v hv) hi (cb hj.2.1 v hv) bi (fun x hx => by
          rw [sm_ch (by omega) hj hx hv, sm_no (by omega) hi hx hv]
          exact (e _ (wvN_lt _ hx hv)).symm)
        exact all4 (K := K) hj.2.1 (fun v hv => by rw [hh v hv, hh 0 (by decide)])
    · rcases hj with hj | hj
      · exfalso
        have hh : ∀ v, v < 4 → chl T (i - o) v = j := fun v hv => ih (by omega) (hi.2.2.2.2 v hv) hj (cb hi.2.1 v hv) bj (fun x hx => by
          rw [sm_ch (by omega) hi hx hv, sm_no (by omega) hj hx hv]
          exact e _ (wvN_lt _ hx hv))
        exact all4 (K := K) hi.2.1 (fun v hv => by rw [hh v hv, hh 0 (by decide)])
      · have hh : ∀ v, v < 4 → chl T (i - o) v = chl T (j - o) v := fun v hv => ih (by omega) (hi.2.2.2.2 v hv) (hj.2.2.2.2 v hv) (cb hi.2.1 v hv) (cb hj.2.1 v hv) (fun x hx => by
          rw [sm_ch (by omega) hi hx hv, sm_ch (by omega) hj hx hv]
          exact e _ (wvN_lt _ hx hv))
        obtain ⟨i1, i2, i3, i4, _⟩ := hi
        obtain ⟨j1, j2, j3, j4, _⟩ := hj
        have ee : T.getD (i - o) (0, []) = T.getD (j - o) (0, []) := Prod.ext (by rw [i3, j3]) (l4_ext i4 j4 hh)
        have := K.1 (i - o) (j - o) _ (gD_get T (0, []) i2) (by rw [ee]; exact gD_get T (0, []) j2)
        omega
end CAN
section CRS
variable {o o2 : Nat} {D D2 : List (Int64 × Int64)} {T T2 : List TE}
/-- nodes of two tables that stand for the same are of one kind -/
theorem crs (hD : ND D) (K : GTT D.length o T) (hD2 : ND D2) (K2 : GTT D2.length o2 T2) : ∀ {n : Nat}, n ≤ 3 → ∀ {i j : Nat}, HF o T n i → HF o2 T2 n j → (∀ x, x < 64 → sm o D T x n i = sm o2 D2 T2 x n j) → (i < o ∧ j < o2) ∨ (¬ i < o ∧ ¬ j < o2 ∧ i - o < T.length ∧ j - o2 < T2.length ∧ (T.getD (i - o) (0, [])).1 = (T2.getD (j - o2) (0, [])).1 ∧ ∀ v, v < 4 → ∀ x, x < 64 → sm o D T x 3 (chl T (i - o) v) = sm o2 D2 T2 x 3 (chl T2 (j - o2) v)) := by
  intro n
  induction n with
  | zero => intro _ i j hi hj _; exact Or.inl ⟨hi, hj⟩
  | succ n ih =>
    intro hn i j hi hj e
    rcases hi with hi | hi
    · rcases hj with hj | hj
      · exact ih (by omega) hi hj (fun x hx => by rw [← sm_s hi, ← sm_s hj]; exact e x hx)
      · exfalso
        have cb : ∀ v, v < 4 → chl T2 (j - o2) v < o2 → chl T2 (j - o2) v < D2.length := fun v hv => K2.2.2 (j - o2) _ (gD_get T2 (0, []) hj.2.1) v hv
        have hh : ∀ v, v < 4 → ∀ x, x < 64 → sm o2 D2 T2 x n (chl T2 (j - o2) v) = sm o D T x n i := fun v hv x hx => by
          rw [sm_ch (by omega) hj hx hv, sm_no (by omega) hi hx hv]
          exact (e _ (wvN_lt _ hx hv)).symm
        exact all4 (K := K2) hj.2.1 (fun v hv => can hD2 K2 (by omega) (hj.2.2.2.2 v hv) (hj.2.2.2.2 0 (by decide)) (cb v hv) (cb 0 (by decide)) (fun x hx => by rw [hh v hv x hx, hh 0 (by decide) x hx]))
    · rcases hj with hj | hj
      · exfalso
        have cb : ∀ v, v < 4 → chl T (i - o) v < o → chl T (i - o) v < D.length := fun v hv => K.2.2 (i - o) _ (gD_get T (0, []) hi.2.1) v hv
        have hh : ∀ v, v < 4 → ∀ x, x < 64 → sm o D T x n (chl T (i - o) v) = sm o2 D2 T2 x n j := fun v hv x hx => by
          rw [sm_ch (by omega) hi hx hv, sm_no (by omega) hj hx hv]
          exact e _ (wvN_lt _ hx hv)
        exact all4 (K := K) hi.2.1 (fun v hv => can hD K (by omega) (hi.2.2.2.2 v hv) (hi.2.2.2.2 0 (by decide)) (cb v hv) (cb 0 (by decide)) (fun x hx => by rw [hh v hv x hx, hh 0 (by decide) x hx]))
      · obtain ⟨i1, i2, i3, i4, i5⟩ := id hi
        obtain ⟨j1, j2, j3, j4, j5⟩ := id hj
        refine Or.inr ⟨by omega, by omega, i2, j2, by rw [i3, j3], fun v hv x hx => ?_⟩
        rw [sm_up (i5 v hv) (by omega), sm_up (j5 v hv) (by omega), sm_ch (by omega) hi hx hv, sm_ch (by omega) hj hx hv]
        exact e _ (wvN_lt _ hx hv)
end CRS


/-! THE TABLE: the first row whose demands a packet meets is the leaf at the end of its way -/
def cd (Q : Nat → Nat) : Nat := 25 * Q 0 + 5 * Q 1 + Q 2
def dgt (Q : Nat → Nat) : Prop := ∀ f, f < 3 → Q f ≤ 4
theorem eF_dec : ∀ a, a < 5 → ∀ b, b < 5 → ∀ c, c < 5 → eF (nI (25 * a + 5 * b + c)) 0 = nI a ∧ eF (nI (25 * a + 5 * b + c)) 1 = nI b ∧ eF (nI (25 * a + 5 * b + c)) 2 = nI c := by decide +kernel
theorem eF_cd {Q : Nat → Nat} (h : dgt Q) {f : Nat} (hf : f < 3) : eF (nI (cd Q)) f = nI (Q f) := by
  have h0 := h 0 (by decide)
  have h1 := h 1 (by decide)
  have h2 := h 2 (by decide)
  have e := eF_dec (Q 0) (by omega) (Q 1) (by omega) (Q 2) (by omega)
  rcases (by omega : f = 0 ∨ f = 1 ∨ f = 2) with rfl | rfl | rfl
  · exact e.1
  · exact e.2.1
  · exact e.2.2
theorem up_d0 : ∀ b, b < 5 → ∀ c, c < 5 → ∀ v, v < 4 → nI (25 * 4 + 5 * b + c) + (nI v - 4) * wtI 0 = nI (25 * v + 5 * b + c) := by decide +kernel
theorem up_d1 : ∀ b, b < 5 → ∀ c, c < 5 → ∀ v, v < 4 → nI (25 * b + 5 * 4 + c) + (nI v - 4) * wtI 1 = nI (25 * b + 5 * v + c) := by decide +kernel
theorem up_d2 : ∀ b, b < 5 → ∀ c, c < 5 → ∀ v, v < 4 → nI (25 * b + 5 * c + 4) + (nI v - 4) * wtI 2 = nI (25 * b + 5 * c + v) := by decide +kernel
theorem up_cd {Q : Nat → Nat} {f v : Nat} (h : dgt Q) (hf : f < 3) (hv : v < 4) (h4 : Q f = 4) : nI (cd Q) + (nI v - 4) * wtI f = nI (cd (va_up Q f v)) := by
  have h0 := h 0 (by decide)
  have h1 := h 1 (by decide)
  have h2 := h 2 (by decide)
  unfold cd
  rcases (by omega : f = 0 ∨ f = 1 ∨ f = 2) with rfl | rfl | rfl
  · rw [upd_eq, upd_ne (by decide), upd_ne (by decide), h4]
    exact up_d0 _ (by omega) _ (by omega) _ hv
  · rw [upd_eq, upd_ne (by decide), upd_ne (by decide), h4]
    exact up_d1 _ (by omega) _ (by omega) _ hv
  · rw [upd_eq, upd_ne (by decide), upd_ne (by decide), h4]
    exact up_d2 _ (by omega) _ (by omega) _ hv
theorem dgt_up {Q : Nat → Nat} {f v : Nat} (h : dgt Q) (hv : v < 4) : dgt (va_up Q f v) := fun g hg => by
  by_cases e : g = f
  · subst e; rw [upd_eq]; omega
  · rw [upd_ne e]; exact h g hg
theorem nI_4 {k : Nat} (h : k < 2 ^ 31) : nI k = 4 ↔ k = 4 := nI_eq (b := 4) h (by decide)
theorem mt_iff {Q : Nat → Nat} (h : dgt Q) {p : Nat} : mtF (nI (cd Q)) p 3 = true ↔ ∀ f, f < 3 → Q f = 4 ∨ Q f = vlN p f := by
  have one : ∀ f, f < 3 → ((decide (eF (nI (cd Q)) f = 4) || decide (eF (nI (cd Q)) f = nI (vlN p f))) = true ↔ Q f = 4 ∨ Q f = vlN p f) := fun f hf => by
    have hb := h f hf
    have hv := vlN_lt p f
    rw [Bool.or_eq_true, decide_eq_true_eq, decide_eq_true_eq, eF_cd h hf, nI_4 (by omega), nI_eq (by omega) (by omega)]
  show (((true && _) && _) && _) = true ↔ _
  rw [Bool.true_and, Bool.and_eq_true, Bool.and_eq_true, one 0 (by decide), one 1 (by decide), one 2 (by decide)]
  constructor
  · rintro ⟨⟨a, b⟩, c⟩ f hf
    rcases (by omega : f = 0 ∨ f = 1 ∨ f = 2) with rfl | rfl | rfl
    · exact a
    · exact b
    · exact c
  · intro k
    exact ⟨⟨k 0 (by decide), k 1 (by decide)⟩, k 2 (by decide)⟩
theorem visK_mem {r : Nat → Int32 → List (Int32 × Nat)} {f : Nat} {c : Nat → Nat} {mc : Nat} {q : Int32} {x : Int32 × Nat} : ∀ {n : Nat}, x ∈ visK r f c mc q n → ∃ v, v < n ∧ x ∈ r (c v) (q + (nI v - 4) * wtI f) := by
  intro n
  induction n with
  | zero => intro h; cases h
  | succ n ih =>
    intro h
    rcases List.mem_append.mp (show x ∈ visK r f c mc q n ++ (if c n = mc then [] else r (c n) (q + (nI n - 4) * wtI f)) from h) with z | z
    · obtain ⟨v, hv, hx⟩ := ih z
      exact ⟨v, by omega, hx⟩
    · by_cases e : c n = mc
      · rw [if_pos e] at z; cases z
      · rw [if_neg e] at z
        exact ⟨n, by omega, z⟩
theorem visK_find {P : Int32 × Nat → Bool} {r : Nat → Int32 → List (Int32 × Nat)} {f : Nat} {c : Nat → Nat} {mc : Nat} {q : Int32} {v0 : Nat} (hz : ∀ v, v < 4 → v ≠ v0 → (r (c v) (q + (nI v - 4) * wtI f)).find? P = none) : ∀ n, n ≤ 4 → (visK r f c mc q n).find? P = if v0 < n ∧ c v0 ≠ mc then (r (c v0) (q + (nI v0 - 4) * wtI f)).find? P else none := by
  intro n
  induction n with
  | zero => intro _; rw [if_neg (fun z => Nat.not_lt_zero _ z.1)]; rfl
  | succ n ih =>
    intro hn
    show (visK r f c mc q n ++ (if c n = mc then [] else r (c n) (q + (nI n - 4) * wtI f))).find? P = _
    rw [List.find?_append, ih (by omega)]
    by_cases e : n = v0
    · subst e
      rw [if_neg (fun z => Nat.lt_irrefl _ z.1), Option.none_or]
      by_cases c2 : c n = mc
      · rw [if_pos c2, if_neg (fun z => z.2 c2)]; rfl
      · rw [if_neg c2, if_pos ⟨by omega, c2⟩]
    · have e2 : (if c n = mc then [] else r (c n) (q + (nI n - 4) * wtI f)).find? P = none := by
        by_cases c2 : c n = mc
        · rw [if_pos c2]; rfl
        · rw [if_neg c2]; exact hz n (by omega) e
      rw [e2, Option.or_none]
      by_cases c3 : v0 < n ∧ c v0 ≠ mc
      · rw [if_pos c3, if_pos ⟨by omega, c3.2⟩]
      · rw [if_neg c3, if_neg (fun z => c3 ⟨by omega, z.2⟩)]
section VIS
variable {o : Nat} {D : List (Int64 × Int64)} {T : List TE}
theorem vis_dem : ∀ {n : Nat}, n ≤ 3 → ∀ {i : Nat}, HF o T n i → ∀ {Q : Nat → Nat}, dgt Q → (∀ f, 3 - n ≤ f → f < 3 → Q f = 4) → ∀ x ∈ vis o T (n + 1) i (nI (cd Q)), ∃ Q', dgt Q' ∧ x.1 = nI (cd Q') ∧ ∀ f, f < 3 → Q f ≠ 4 → Q' f = Q f := by
  intro n
  induction n with
  | zero =>
    intro _ i hi Q hQ _ x hx
    rw [vis_lf (show i < o from hi), List.mem_singleton] at hx
    subst hx
    exact ⟨Q, hQ, rfl, fun _ _ _ => rfl⟩
  | succ n ih =>
    intro hn i hi Q hQ h4 x hx
    rcases hi with hi | ⟨h1, h2, h3, h4', h5⟩
    · rw [vis_fu hi (by omega)] at hx
      exact ih (by omega) hi hQ (fun f a b => h4 f (by omega) b) x hx
    · rw [vis_ts (by omega), h3] at hx
      rcases List.mem_append.mp hx with z | z
      · obtain ⟨v, hv, hx⟩ := visK_mem z
        rw [up_cd hQ (by omega) hv (h4 (2 - n) (by omega) (by omega))] at hx
        obtain ⟨Q', q1, q2, q3⟩ := ih (by omega) (h5 v hv) (dgt_up hQ hv) (fun f a b => by rw [upd_ne (by omega)]; exact h4 f (by omega) b) x hx
        refine ⟨Q', q1, q2, fun f hf hne => ?_⟩
        have e : f ≠ 2 - n := fun e => hne (by rw [e]; exact h4 (2 - n) (by omega) (by omega))
        have := q3 f hf (by rw [upd_ne e]; exact hne)
        rwa [upd_ne e] at this
      · obtain ⟨v, hv, em⟩ := mainN_is (chl T (i - o))
        rw [em] at z
        exact ih (by omega) (h5 v hv) hQ (fun f a b => h4 f (by omega) b) x z
/-- the rows below a test's value demand this value -/
theorem vis_val {n : Nat} (hn : n ≤ 2) {i v : Nat} (hv : v < 4) (hi : HF o T n i) {Q : Nat → Nat} (hQ : dgt Q) (h4 : ∀ f, 3 - (n + 1) ≤ f → f < 3 → Q f = 4) {p : Nat} (hp : v ≠ vlN p (2 - n)) : (vis o T (n + 1) i (nI (cd Q) + (nI v - 4) * wtI (2 - n))).find? (fun y => mtF y.1 p 3) = none := by
  refine List.find?_eq_none.mpr (fun x hx => ?_)
  rw [up_cd hQ (by omega) hv (h4 (2 - n) (by omega) (by omega))] at hx
  obtain ⟨Q', q1, q2, q3⟩ := vis_dem (by omega) hi (dgt_up hQ hv) (fun f a b => by rw [upd_ne (by omega)]; exact h4 f (by omega) b) x hx
  have e := q3 (2 - n) (by omega) (by rw [upd_eq]; omega)
  rw [upd_eq] at e
  intro hm
  rw [q2] at hm
  rcases (mt_iff q1).mp hm (2 - n) (by omega) with z | z
  · omega
  · exact hp (by rw [← e]; exact z)
theorem vis_find {p : Nat} : ∀ {n : Nat}, n ≤ 3 → ∀ {i : Nat}, HF o T n i → ∀ {Q : Nat → Nat}, dgt Q → (∀ f, 3 - n ≤ f → f < 3 → Q f = 4) → (∀ f, f < 3 → Q f = 4 ∨ Q f = vlN p f) → ∃ x, (vis o T (n + 1) i (nI (cd Q))).find? (fun y => mtF y.1 p 3) = some x ∧ D.getD x.2 (0, 0) = sm o D T p n i := by
  intro n
  induction n with
  | zero =>
    intro _ i hi Q hQ _ hm
    rw [vis_lf (show i < o from hi)]
    exact ⟨(nI (cd Q), i), List.find?_cons_of_pos ((mt_iff hQ).mpr hm), rfl⟩
  | succ n ih =>
    intro hn i hi Q hQ h4 hm
    rcases hi with hi | ⟨h1, h2, h3, h4', h5⟩
    · rw [vis_fu hi (by omega), sm_s hi]
      exact ih (by omega) hi hQ (fun f a b => h4 f (by omega) b) hm
    · have hv := vlN_lt p (2 - n)
      rw [vis_ts (by omega), h3, List.find?_append, visK_find (v0 := vlN p (2 - n)) (fun v hv hne => vis_val (by omega) hv (h5 v hv) hQ h4 hne) 4 (Nat.le_refl _), sm_ts (by omega), h3]
      by_cases c : chl T (i - o) (vlN p (2 - n)) = mainN (chl T (i - o))
      · rw [if_neg (fun z => z.2 c), Option.none_or, ← c]
        exact ih (by omega) (h5 _ hv) hQ (fun f a b => h4 f (by omega) b) hm
      · rw [if_pos ⟨hv, c⟩, up_cd hQ (by omega) hv (h4 (2 - n) (by omega) (by omega))]
        obtain ⟨x, hx, e⟩ := ih (by omega) (h5 _ hv) (dgt_up (f := 2 - n) hQ hv) (fun f a b => by rw [upd_ne (by omega)]; exact h4 f (by omega) b) (fun f hf => by
          by_cases e : f = 2 - n
          · rw [e, upd_eq]; exact Or.inr rfl
          · rw [upd_ne e]; exact hm f hf)
        rw [hx, Option.some_or]
        exact ⟨x, rfl, e⟩
end VIS
theorem pkt_v {x : Nat} (hx : x < 64) : 4 * (4 * (4 * 0 + vlN x 0) + vlN x 1) + vlN x 2 = x := by
  show 4 * (4 * (4 * 0 + x / 16 % 4) + x / 4 % 4) + x % 4 = x
  omega
theorem HF_root (R : Nat → Int64) : HF (cO R) (cT R) 3 (cR R) := HF_c R
theorem sm_root (R : Nat → Int64) {x : Nat} (hx : x < 64) : sm (cO R) (dL R []) (cT R) x 3 (cR R) = acts R x := by
  have z : LY (cO R) R [] [] (cR R) (fun x => acts R (4 * (4 * (4 * 0 + vlN x 0) + vlN x 1) + vlN x 2)) := Or.inr (Or.inr (Or.inr ⟨0, by decide, rfl, rfl⟩))
  have := (z.is (Nat.le_refl _) [] []).2.2 x
  rw [List.append_nil, List.append_nil] at this
  rw [pkt_v hx] at this
  exact this
/-- the row that a packet meets first -/
theorem row_of (l : List Nat) {p : Nat} (hp : p < 64) : ∃ r, r < (tR l).length ∧ mtF ((tR l).getD r (0, 0)).1 p 3 = true ∧ (∀ j, j < r → mtF ((tR l).getD j (0, 0)).1 p 3 = false) ∧ (lD l).getD ((tR l).getD r (0, 0)).2 (0, 0) = acts (evI l) p := by
  obtain ⟨x, hx, e⟩ := vis_find (o := cO (evI l)) (D := dL (evI l) []) (T := cT (evI l)) (p := p) (Nat.le_refl 3) (HF_c (evI l)) (Q := fun _ => 4) (fun _ _ => Nat.le_refl _) (fun _ _ _ => rfl) (fun _ _ => Or.inl rfl)
  rw [sm_root _ hp] at e
  have et : vis (cO (evI l)) (cT (evI l)) (3 + 1) (cR (evI l)) (nI (cd fun _ => 4)) = tR l := rfl
  rw [et] at hx
  obtain ⟨h1, r, hr, er, hj⟩ := List.find?_eq_some_iff_getElem.mp hx
  have g : ∀ j (hj : j < (tR l).length), (tR l).getD j (0, 0) = (tR l)[j] := fun j hj => by rw [List.getD_eq_getElem?_getD, List.getElem?_eq_getElem hj]; rfl
  refine ⟨r, hr, ?_, fun j hjr => ?_, ?_⟩
  · rw [g r hr, er]; exact h1
  · have := hj j hjr
    rw [g j (by omega)]
    simpa using this
  · rw [g r hr, er]; exact e

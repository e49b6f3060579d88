/-! THE REFERENCE: tables -/
/-- the stack of the walk: level, node, match -/
abbrev SE : Type := Nat × Nat × Int32
def rmS (T : List TE) : List SE → List (Int32 × Nat)
  | [] => []
  | e :: t => vis 128 T 4 e.2.1 e.2.2 ++ rmS T t
def msS : List SE → Nat
  | [] => 0
  | e :: t => 6 ^ e.1 + msS t
def skO (T : List TE) : List SE → Prop
  | [] => True
  | e :: t => (HF 128 T e.1 e.2.1 ∧ e.1 ≤ 3 ∧ t.length + 4 * e.1 ≤ 12) ∧ skO T t
def StN (h : Hp) (S : List SE) : Prop := Stk (fun e : SE => nI e.2.1) (gI h 151) S ∧ Stk (fun e : SE => e.2.2) (gI h 152) S
/-- what a test puts on the stack, above its main child -/
def puS (c : Nat → Nat) (mc : Nat) (q : Int32) (f m : Nat) : Nat → List SE
  | 0 => []
  | d + 1 => (if c (3 - d) = mc then [] else [(m, c (3 - d), q + (nI (3 - d) - 4) * wtI f)]) ++ puS c mc q f m d
theorem puS_s (c : Nat → Nat) (mc : Nat) (q : Int32) (f m : Nat) {p : Nat} (hp : p < 4) : puS c mc q f m (4 - p) = (if c p = mc then [] else [(m, c p, q + (nI p - 4) * wtI f)]) ++ puS c mc q f m (4 - (p + 1)) := by
  rcases (by omega : p = 0 ∨ p = 1 ∨ p = 2 ∨ p = 3) with rfl | rfl | rfl | rfl <;> rfl
theorem puS_ok {T : List TE} {c : Nat → Nat} {mc f m : Nat} {q : Int32} (hc : ∀ v, v < 4 → HF 128 T m (c v)) (hm : m ≤ 3) {X : List SE} (hX : skO T X) (hl : X.length + 3 + 4 * m ≤ 12) : ∀ d, d ≤ 4 → skO T (puS c mc q f m d ++ X) ∧ (puS c mc q f m d ++ X).length ≤ X.length + d ∧ msS (puS c mc q f m d ++ X) ≤ d * 6 ^ m + msS X := by
  intro d
  induction d with
  | zero => intro _; exact ⟨hX, Nat.le_refl _, by rw [Nat.zero_mul, Nat.zero_add]; exact Nat.le_refl _⟩
  | succ d ih =>
    intro hd
    obtain ⟨i1, i2, i3⟩ := ih (by omega)
    unfold puS
    rw [Nat.succ_mul]
    by_cases e : c (3 - d) = mc
    · rw [if_pos e, List.nil_append]
      exact ⟨i1, by omega, Nat.le_trans i3 (Nat.add_le_add_right (Nat.le_add_right _ _) _)⟩
    · rw [if_neg e, List.append_assoc, List.singleton_append]
      refine ⟨⟨⟨hc _ (by omega), hm, ?_⟩, i1⟩, ?_, ?_⟩
      · show (puS c mc q f m d ++ X).length + 4 * m ≤ 12
        omega
      · rw [List.length_cons]; omega
      · show 6 ^ m + msS (puS c mc q f m d ++ X) ≤ _
        omega
theorem puS_rm {T : List TE} {c : Nat → Nat} {mc f m : Nat} {q : Int32} {X : List SE} : ∀ d, d ≤ 4 → visK (vis 128 T 4) f c mc q (4 - d) ++ rmS T (puS c mc q f m d ++ X) = visK (vis 128 T 4) f c mc q 4 ++ rmS T X := by
  intro d
  induction d with
  | zero => intro _; rfl
  | succ d ih =>
    intro hd
    rw [← ih (by omega)]
    have e1 : 4 - (d + 1) = 3 - d := by omega
    have e2 : 4 - d = (3 - d) + 1 := by omega
    have e3 : visK (vis 128 T 4) f c mc q (3 - d + 1) = visK (vis 128 T 4) f c mc q (3 - d) ++ (if c (3 - d) = mc then [] else vis 128 T 4 (c (3 - d)) (q + (nI (3 - d) - 4) * wtI f)) := rfl
    have e4 : puS c mc q f m (d + 1) = (if c (3 - d) = mc then [] else [(m, c (3 - d), q + (nI (3 - d) - 4) * wtI f)]) ++ puS c mc q f m d := rfl
    rw [e1, e2, e3, e4]
    by_cases e : c (3 - d) = mc
    · rw [if_pos e, if_pos e, List.append_nil, List.nil_append]
    · rw [if_neg e, if_neg e, List.append_assoc, List.append_assoc, List.singleton_append]
      rfl
def TbM (h : Hp) (RL : List (Int32 × Nat)) (n : Nat) : Prop := gI h 123 39 = nI n ∧ ∀ r x, RL[r]? = some x → gI h 149 r = x.1 ∧ gI h 150 r = nI x.2
def tbA : Nat → Prop := fun a => a = 123 ∨ 149 ≤ a
def TFr (h h1 : Hp) : Prop := Fr tbA h h1 ∧ ∀ i, i ≠ 39 → gI h1 123 i = gI h 123 i
theorem TFr.rf {h : Hp} : TFr h h := ⟨Fr.rf, fun _ _ => rfl⟩
theorem TFr.tr {h h1 h2 : Hp} (a : TFr h h1) (b : TFr h1 h2) : TFr h h2 := ⟨a.1.tr b.1, fun i x => by rw [b.2 i x, a.2 i x]⟩
theorem TFr.c {h : Hp} {a k : Nat} {v : Int32} (h1 : 149 ≤ a) : TFr h (sI h a k v) := ⟨Fr.sI (Or.inr h1), fun i _ => by rw [gI_sI_ne (by omega)]⟩
theorem TFr.f {h : Hp} {v : Int32} : TFr h (sI h 123 39 v) := ⟨Fr.sI (Or.inl rfl), fun i x => by rw [gI_sI, upd_ne x]⟩
theorem TFr.mi {G : St} {h h1 : Hp} (K : TFr h h1) (M : MI h G) : MI h1 G := M.wk (K.1.wk (fun a x => by unfold tbA at x; unfold mW; omega)) (K.2 2 (by decide)) (K.2 5 (by decide))
theorem TFr.mA {h h1 : Hp} (K : TFr h h1) : Fr mA h h1 := K.1.wk (fun a x => by unfold tbA at x; show 123 ≤ a; omega)
theorem TFr.rt {h h1 : Hp} {T : List TE} (K : TFr h h1) (B : RfT h T) : RfT h1 T := by
  unfold RfT
  rw [K.2 34 (by decide), K.1.I (show ¬ tbA 145 by unfold tbA; omega), K.1.I (show ¬ tbA 146 by unfold tbA; omega)]
  exact B
theorem TFr.rl {h h1 : Hp} {D : List (Int64 × Int64)} (K : TFr h h1) (B : RfL h D) : RfL h1 D := by
  unfold RfL
  rw [K.2 31 (by decide), K.1.L (show ¬ tbA 143 by unfold tbA; omega), K.1.L (show ¬ tbA 144 by unfold tbA; omega)]
  exact B
theorem Stk.congr {α : Type} {v : α → Int32} {f g : Nat → Int32} : ∀ {t : List α}, Stk v f t → (∀ i, i < t.length → g i = f i) → Stk v g t := by
  intro t
  induction t with
  | nil => intro _ _; trivial
  | cons x t ih =>
    intro h e
    exact ⟨by rw [e t.length (by rw [List.length_cons]; omega)]; exact h.1, ih h.2 (fun i hi => e i (by rw [List.length_cons]; omega))⟩
section REF
variable {h : Hp} {G : St} {T : List TE}
/-- one child goes onto the stack, or not -/
theorem X10_tb126 (L : Lay h) (B : RfT h T) (K : TB T) (hT : T.length ≤ 64) {k mc m : Nat} {q : Int32} {X : List SE} (hk : k < T.length) (hf3 : (T.getD k (0, [])).1 < 3) (hmc : mc < 2 ^ 31) (hX : StN h X) (hsk : skO T X) (hl : X.length + 3 + 4 * m ≤ 12) (hm : m ≤ 3) (hc : ∀ v, v < 4 → HF 128 T m (chl T k v)) {k26 : (Int32 × Hp) → Option (Unit × Hp)} {Q : Unit → Hp → Prop}
    (kk : ∀ h1, TFr h h1 → gI h1 149 = gI h 149 → gI h1 150 = gI h 150 → gI h1 123 39 = gI h 123 39 → StN h1 (puS (chl T k) mc q (T.getD k (0, [])).1 m 4 ++ X) → Tr (k26 (nI (puS (chl T k) mc q (T.getD k (0, [])).1 m 4 ++ X).length, h1)) Q) :
    Tr (loopN (fun kc s => f_X10_tabulates_126 k26 kc 123 s.1 q (nI k) (nI mc) s.2.1 s.2.2) 5000 (nI X.length, (3 : Int32), h)) Q := by
  have fld := rf_fld B hk
  generalize hff : (T.getD k (0, [])).1 = f at hf3 fld kk
  have chb := fun v hv => rf_chl B K hk (v := v) hv
  generalize hcc : chl T k = c at hc kk chb
  refine Tr.down (J := fun p s => p ≤ 4 ∧ s.1 = nI (puS c mc q f m (4 - p) ++ X).length ∧ s.2.1 = nI p + (-1) ∧ StN s.2.2 (puS c mc q f m (4 - p) ++ X) ∧ TFr h s.2.2 ∧ gI s.2.2 149 = gI h 149 ∧ gI s.2.2 150 = gI h 150 ∧ gI s.2.2 123 39 = gI h 123 39) ?_ ?_ (p := 4) ⟨Nat.le_refl _, rfl, (show (3 : Int32) = nI 4 + (-1) by decide), hX, TFr.rf, rfl, rfl, rfl⟩ (by decide)
  · intro p s kc hJ hk'
    obtain ⟨s1, s2, h1⟩ := s
    obtain ⟨hp, e1, e2, hS, F, g1, g2, g3⟩ := hJ
    dsimp only at e1 e2 hS F g1 g2 g3
    rw [pk_m1] at e2
    subst e1 e2
    dsimp only
    have L1 := F.1.lay L
    have B1 := F.rt B
    have hp4 : p < 4 := by omega
    obtain ⟨o1, o2, o3⟩ := puS_ok (mc := mc) (f := f) (q := q) hc hm hsk hl (4 - (p + 1)) (by omega)
    have es : puS c mc q f m (4 - p) ++ X = (if c p = mc then [] else [(m, c p, q + (nI p - 4) * wtI f)]) ++ (puS c mc q f m (4 - (p + 1)) ++ X) := by rw [puS_s c mc q f m hp4, List.append_assoc]
    rw [es] at hk'
    generalize puS c mc q f m (4 - (p + 1)) ++ X = Y at hS o1 o2 o3 hk'
    have i146 : gI h1 146 (4 * k + p) = nI (c p) := by rw [F.1.I (show ¬ tbA 146 by unfold tbA; omega)]; exact (chb p hp4).1
    refine Tr.neg (nI_pos (by omega)) (Tr.ck (Lo_123 L1) (Tr.gp (Lp_123_33 L1) ?_))
    rw [x4_i]
    refine Tr.ca (La_146 L1 (by omega)) ?_
    rw [nI_clamp (by omega), i146]
    by_cases e : c p = mc
    · rw [if_pos e, List.nil_append] at hk'
      exact Tr.pos (by rw [e]) (Tr.nmx (hk' _ ⟨by omega, rfl, rfl, hS, F, g1, g2, g3⟩))
    · rw [if_neg e, List.singleton_append] at hk'
      refine Tr.neg (nI_ne (chb p hp4).2 hmc e) (Tr.gp (Lp_123_40 L1) (Tr.gp (Lp_123_33 L1) (Tr.ca (La_146 L1 (by omega)) (Tr.ca (La_151 L1 (by omega)) ?_))))
      rw [nI_clamp (by omega), nI_clamp (by omega), i146]
      have L2 : Lay (sI h1 151 Y.length (nI (c p))) := L1
      have F2 : TFr h (sI h1 151 Y.length (nI (c p))) := F.tr (TFr.c (by decide))
      refine Tr.gp (Lp_123_41 L2) (Tr.gp (Lp_123_32 L2) (Tr.ca (La_145 L2 (by omega)) ?_))
      rw [F2.1.I (show ¬ tbA 145 by unfold tbA; omega), fld]
      refine Tr.be (X10_fives hf3 _) (Tr.ca (La_152 L2 (by omega)) (Tr.nmx (Tr.nmx (hk' _ ⟨by omega, ?_, rfl, ⟨?_, ?_⟩, F2.tr (TFr.c (by decide)), ?_, ?_, ?_⟩))))
      · dsimp only; rw [nI_1]; rfl
      · dsimp only
        rw [gI_sI_ne (by decide), gI_sI]
        exact hS.1.push (m, c p, q + (nI p - 4) * wtI f)
      · dsimp only
        rw [gI_sI, gI_sI_ne (by decide)]
        exact hS.2.push (m, c p, q + (nI p - 4) * wtI f)
      · dsimp only; rw [gI_sI_ne (by decide), gI_sI_ne (by decide)]; exact g1
      · dsimp only; rw [gI_sI_ne (by decide), gI_sI_ne (by decide)]; exact g2
      · dsimp only; rw [gI_sI_ne (by decide), gI_sI_ne (by decide)]; exact g3
  · intro s kc hJ
    obtain ⟨s1, s2, h1⟩ := s
    obtain ⟨hp, e1, e2, hS, F, g1, g2, g3⟩ := hJ
    dsimp only at e1 e2 hS F g1 g2 g3
    subst e1 e2
    dsimp only
    exact Tr.pos (by decide) (kk h1 F g1 g2 g3 hS)
/-- rows at the end that drop all are taken off -/
theorem tot_0 (x : Int64 × Int64) : decide (0 < tot x) = false ↔ x.1 = 0 ∧ x.2 = 0 := by
  have h0 : ∀ y : Int64, fb_ct (bq y) 64 = 0 ↔ y = 0 := fun y => by rw [fb_ct_zero]; exact bq_nz.symm
  rw [decide_eq_false_iff_not, ← h0 x.1, ← h0 x.2]
  show ¬ 0 < fb_ct (bq x.1) 64 + fb_ct (bq x.2) 64 ↔ _
  generalize fb_ct (bq x.1) 64 = a
  generalize fb_ct (bq x.2) 64 = b
  omega
theorem X10_tb202 (L : Lay h) {D : List (Int64 × Int64)} (A : RfL h D) {RL : List (Int32 × Nat)} (B : TbM h RL RL.length) (hl : RL.length ≤ 64) (hD : D.length ≤ 128) (hlf : ∀ x ∈ RL, x.2 < D.length) : Tr (loopN (fun k s => f_X10_tabulates_202 k 123 s) 5000 h) (fun _ h1 => TbM h1 RL (kep (rowNE D RL) RL.length) ∧ TFr h h1) := by
  refine Tr.down (J := fun n h1 => n ≤ RL.length ∧ TbM h1 RL n ∧ TFr h h1 ∧ kep (rowNE D RL) RL.length = kep (rowNE D RL) n) ?_ ?_ (p := RL.length) ⟨Nat.le_refl _, B, TFr.rf, rfl⟩ (by omega)
  · intro n h1 k hJ hk'
    obtain ⟨hn, B1, F, e⟩ := hJ
    have L1 := F.1.lay L
    have A1 := F.rl A
    have hx := gD_get RL (0, 0) (show n < RL.length by omega)
    have hd := hlf _ (gD_mem RL (0, 0) (show n < RL.length by omega))
    generalize hrow : RL.getD n (0, 0) = row at hx hd
    have r150 := (B1.2 n row hx).2
    obtain ⟨a1, a2⟩ := A1.2 row.2 _ (gD_get D (0, 0) hd)
    have et := tot_0 (D.getD row.2 (0, 0))
    have er : rowNE D RL n = decide (0 < tot (D.getD row.2 (0, 0))) := by unfold rowNE; rw [hrow]
    have ek : kep (rowNE D RL) (n + 1) = if rowNE D RL n then n + 1 else kep (rowNE D RL) n := rfl
    refine Tr.ck (Lo_123 L1) ?_
    rw [B1.1]
    refine Tr.neg (nI_nle (by omega) (by omega)) (Tr.gp (Lp_123_29 L1) (Tr.gp (Lp_123_38 L1) ?_))
    rw [nI_pred]
    refine Tr.ca (La_150 L1 (by omega)) ?_
    rw [nI_clamp (by omega), r150]
    refine Tr.ca (La_143 L1 (by omega)) ?_
    rw [nI_clamp (by omega), a1]
    by_cases c1 : (D.getD row.2 (0, 0)).1 = 0
    · refine Tr.pos ((lg_cmp_eq _ _).mpr c1) (Tr.gp (Lp_123_30 L1) (Tr.gp (Lp_123_38 L1) (Tr.ca (La_150 L1 (by omega)) ?_)))
      rw [r150]
      refine Tr.ca (La_144 L1 (by omega)) ?_
      rw [nI_clamp (by omega), a2]
      by_cases c2 : (D.getD row.2 (0, 0)).2 = 0
      · refine Tr.pos ((lg_cmp_eq _ _).mpr c2) (hk' _ ⟨by omega, ⟨by rw [gI_sI, upd_eq], fun r x hr => ?_⟩, F.tr TFr.f, ?_⟩)
        · rw [gI_sI_ne (by decide), gI_sI_ne (by decide)]; exact B1.2 r x hr
        · rw [e, ek, if_neg (by rw [er, et.mpr ⟨c1, c2⟩]; decide)]
      · refine Tr.neg (fun z => c2 ((lg_cmp_eq _ _).mp z)) (Tr.ret ⟨?_, F⟩)
        have : rowNE D RL n = true := by
          rw [er]
          cases y : decide (0 < tot (D.getD row.2 (0, 0))) with
          | true => rfl
          | false => exact absurd (et.mp y).2 c2
        rw [e, ek, if_pos this]; exact B1
    · refine Tr.neg (fun z => c1 ((lg_cmp_eq _ _).mp z)) (Tr.ret ⟨?_, F⟩)
      have : rowNE D RL n = true := by
        rw [er]
        cases y : decide (0 < tot (D.getD row.2 (0, 0))) with
        | true => rfl
        | false => exact absurd (et.mp y).1 c1
      rw [e, ek, if_pos this]; exact B1
  · intro h1 k hJ
    obtain ⟨hn, B1, F, e⟩ := hJ
    have L1 := F.1.lay L
    refine Tr.ck (Lo_123 L1) ?_
    rw [B1.1]
    refine Tr.pos (by decide) (Tr.ret ⟨?_, F⟩)
    rw [e]; exact B1
theorem X10_tb26 (L : Lay h) (B : RfT h T) (K : TB T) (hT : T.length ≤ 64) {D : List (Int64 × Int64)} (A : RfL h D) (hD : D.length ≤ 128) {r : Nat} (hr : HF 128 T 3 r) (hlf : ∀ x ∈ vis 128 T 4 r 124, x.2 < D.length) (g39 : gI h 123 39 = nI 0) (g151 : gI h 151 0 = nI r) (g152 : gI h 152 0 = 124) :
    Tr (loopN (fun k s => f_X10_tabulates_26 k 123 s.1 s.2) 5000 ((1 : Int32), h)) (fun _ h1 => TbM h1 (vis 128 T 4 r 124) (kep (rowNE D (vis 128 T 4 r 124)) (vis 128 T 4 r 124).length) ∧ TFr h h1) := by
  have hvl := vis_len 128 T 3 r 124
  have hvl : (vis 128 T 4 r 124).length ≤ 64 := hvl
  generalize hR : vis 128 T 4 r 124 = ROWS at hlf hvl
  refine Tr.loop (I := fun m s => ∃ S RL, s.1 = nI S.length ∧ msS S = m ∧ skO T S ∧ StN s.2 S ∧ TbM s.2 RL RL.length ∧ RL ++ rmS T S = ROWS ∧ TFr h s.2) ?_ 5000 216 _ ⟨[(3, r, 124)], [], rfl, rfl, ⟨⟨hr, (by decide : 3 ≤ 3), (by decide : 0 + 4 * 3 ≤ 12)⟩, trivial⟩, ⟨⟨g151, trivial⟩, ⟨g152, trivial⟩⟩, ⟨g39, fun i x hx => by cases hx⟩, by rw [← hR]; exact List.append_nil _, TFr.rf⟩ (by decide)
  intro m s k hI hk
  obtain ⟨s1, h1⟩ := s
  obtain ⟨S, RL, e1, e2, hs, hS, B1, er, F⟩ := hI
  dsimp only at e1 hS B1 F
  subst e1 e2
  dsimp only
  have L1 := F.1.lay L
  have A1 := F.rl A
  have T1 := F.rt B
  cases S with
  | nil =>
    have er : RL = ROWS := by rw [← er]; exact (List.append_nil _).symm
    subst er
    refine Tr.pos (by decide) (Tr.imp (X10_tb202 L1 A1 B1 hvl hD hlf) (fun _ h2 q => ⟨q.1, F.tr q.2⟩))
  | cons e t =>
    obtain ⟨n, i, q⟩ := e
    obtain ⟨⟨hf, hn3, hlen⟩, hst⟩ := hs
    obtain ⟨⟨p1, S1⟩, ⟨p2, S2⟩⟩ := hS
    dsimp only at hf hn3 hlen p1 p2
    rw [List.length_cons]
    have hlt := hf.lt
    refine Tr.neg (nI_nle (by omega) (by omega)) ?_
    rw [pk_m1]
    refine Tr.nmx (Tr.ck (Lo_123 L1) (Tr.gp (Lp_123_40 L1) (Tr.ca (La_151 L1 (by omega)) ?_)))
    rw [nI_clamp (by omega), p1]
    refine Tr.nmx (Tr.gp (Lp_123_41 L1) (Tr.ca (La_152 L1 (by omega)) ?_))
    rw [p2]
    refine Tr.nmx ?_
    by_cases ci : i < 128
    · refine Tr.neg (nI_ge (b := 128) ci (by decide)) (Tr.gp (Lp_123_38 L1) ?_)
      have ev : rmS T ((n, i, q) :: t) = (q, i) :: rmS T t := by
        show vis 128 T 4 i q ++ rmS T t = _
        rw [vis_lf ci]; rfl
      rw [ev] at er
      have hrl : RL.length < 64 := by
        have := congrArg List.length er
        rw [List.length_append, List.length_cons] at this
        omega
      rw [B1.1]
      refine Tr.ca (La_150 L1 hrl) ?_
      rw [nI_clamp (by omega)]
      have L2 : Lay (sI h1 150 RL.length (nI i)) := L1
      refine Tr.gp (Lp_123_37 L2) ?_
      rw [gI_sI_ne (by decide), B1.1]
      refine Tr.ca (La_149 L2 hrl) (Tr.nm (fun h3 e3 => ?_))
      rw [nI_clamp (by omega)] at e3
      have F3 : TFr h1 h3 := by rw [e3]; exact (TFr.c (by decide)).tr (TFr.c (by decide))
      have g39' : gI h3 123 39 = nI RL.length := by rw [e3, gI_sI_ne (by decide), gI_sI_ne (by decide)]; exact B1.1
      rw [g39', nI_1]
      refine hk (msS t) _ (by show msS t < 6 ^ n + msS t; have := Nat.one_le_pow n 6 (by decide); omega) ⟨t, RL ++ [(q, i)], rfl, rfl, hst, ⟨?_, ?_⟩, ⟨?_, fun j x hj => ?_⟩, by rw [List.append_assoc]; exact er, (F.tr F3).tr TFr.f⟩
      · dsimp only; rw [gI_sI_ne (by decide), e3, gI_sI_ne (by decide), gI_sI_ne (by decide)]; exact S1
      · dsimp only; rw [gI_sI_ne (by decide), e3, gI_sI_ne (by decide), gI_sI_ne (by decide)]; exact S2
      · dsimp only; rw [gI_sI, upd_eq, List.length_append]; rfl
      · dsimp only
        rw [gI_sI_ne (by decide), gI_sI_ne (by decide), e3, gI_sI, gI_sI_ne (by decide), gI_sI_ne (by decide), gI_sI]
        have hj2 := (List.getElem?_eq_some_iff.mp hj).1
        rw [List.length_append, List.length_singleton] at hj2
        by_cases c : j = RL.length
        · subst c
          rw [List.getElem?_append_right (Nat.le_refl _), Nat.sub_self] at hj
          cases hj
          rw [upd_eq, upd_eq]; exact ⟨rfl, rfl⟩
        · rw [List.getElem?_append_left (by omega)] at hj
          rw [upd_ne c, upd_ne c]; exact B1.2 j x hj
    · obtain ⟨m', en, hk2, hf3, hl4, hch⟩ := hf.c1 ci
      subst en
      refine Tr.pos (nI_le (a := 128) (b := i) (by omega) (by omega)) ?_
      rw [m128 (by omega)]
      refine Tr.nmx (Tr.be (X10_mainOf L1 T1 K hT hk2) (Tr.ck (Lo_123 L1) (Tr.gp (Lp_123_40 L1) (Tr.ca (La_151 L1 (by omega)) ?_))))
      obtain ⟨v0, hv0, e0⟩ := mainN_is (chl T (i - 128))
      have hmb : mainN (chl T (i - 128)) < 2 ^ 31 := by rw [e0]; exact (rf_chl T1 K hk2 hv0).2
      have hmf : HF 128 T m' (mainN (chl T (i - 128))) := by rw [e0]; exact hch v0 hv0
      have ev : rmS T ((m' + 1, i, q) :: t) = visK (vis 128 T 4) (T.getD (i - 128) (0, [])).1 (chl T (i - 128)) (mainN (chl T (i - 128))) q 4 ++ rmS T ((m', mainN (chl T (i - 128)), q) :: t) := by
        show vis 128 T 4 i q ++ rmS T t = _ ++ (vis 128 T 4 (mainN (chl T (i - 128))) q ++ rmS T t)
        rw [← vis_fu (hf.up hn3) (a := 5) (by decide), vis_ts ci, List.append_assoc]
      rw [ev] at er
      generalize hmc : mainN (chl T (i - 128)) = mc at hmb hmf er
      have L2 : Lay (sI h1 151 t.length (nI mc)) := L1
      refine Tr.gp (Lp_123_41 L2) (Tr.ca (La_152 L2 (by omega)) ?_)
      rw [nI_1]
      refine Tr.nmx ?_
      have F3 : TFr h1 (sI (sI h1 151 t.length (nI mc)) 152 t.length q) := (TFr.c (by decide)).tr (TFr.c (by decide))
      have hX : StN (sI (sI h1 151 t.length (nI mc)) 152 t.length q) ((m', mc, q) :: t) := ⟨by rw [gI_sI_ne (by decide), gI_sI]; exact S1.push (m', mc, q), by rw [gI_sI, gI_sI_ne (by decide)]; exact S2.push (m', mc, q)⟩
      have g1 : gI (sI (sI h1 151 t.length (nI mc)) 152 t.length q) 149 = gI h1 149 := by rw [gI_sI_ne (by decide), gI_sI_ne (by decide)]
      have g2 : gI (sI (sI h1 151 t.length (nI mc)) 152 t.length q) 150 = gI h1 150 := by rw [gI_sI_ne (by decide), gI_sI_ne (by decide)]
      have g3 : gI (sI (sI h1 151 t.length (nI mc)) 152 t.length q) 123 39 = gI h1 123 39 := by rw [gI_sI_ne (by decide), gI_sI_ne (by decide)]
      generalize sI (sI h1 151 t.length (nI mc)) 152 t.length q = h3 at F3 hX g1 g2 g3
      have hskX : skO T ((m', mc, q) :: t) := ⟨⟨hmf, by show m' ≤ 3; omega, by show t.length + 4 * m' ≤ 12; omega⟩, hst⟩
      obtain ⟨o1, o2, o3⟩ := puS_ok (T := T) (c := chl T (i - 128)) (mc := mc) (f := (T.getD (i - 128) (0, [])).1) (q := q) hch (by omega) hskX (by rw [List.length_cons]; omega) 4 (Nat.le_refl _)
      have orm := puS_rm (T := T) (c := chl T (i - 128)) (mc := mc) (f := (T.getD (i - 128) (0, [])).1) (m := m') (q := q) (X := (m', mc, q) :: t) 4 (Nat.le_refl _)
      rw [← orm] at er
      refine X10_tb126 (F3.1.lay L1) (F3.rt T1) K hT hk2 hf3 hmb hX hskX (by rw [List.length_cons]; omega) (by omega) hch (fun h4 F4 i1 i2 i3 S4 => ?_)
      refine hk _ _ ?_ ⟨_, RL, rfl, rfl, o1, S4, ⟨by dsimp only; rw [i3, g3]; exact B1.1, fun j x hj => by dsimp only; rw [i1, i2, g1, g2]; exact B1.2 j x hj⟩, er, (F.tr F3).tr F4⟩
      have ems : msS ((m', mc, q) :: t) = 6 ^ m' + msS t := rfl
      have epw : 6 ^ (m' + 1) = 6 ^ m' * 6 := Nat.pow_succ ..
      have hp1 := Nat.one_le_pow m' 6 (by decide)
      show _ < 6 ^ (m' + 1) + msS t
      omega
theorem X10_tabulates (M : MI h G) {s : Nat} (hs : s < 4) : Tr (f_X10_tabulates 123 (nI s) h) (fun _ h1 => TbM h1 (tR (G.2.2.1 s)) (tN (G.2.2.1 s)) ∧ RfL h1 (lD (G.2.2.1 s)) ∧ MI h1 G ∧ Fr mA h h1) := by
  refine Tr.ck (Lo_123 M.1) (Tr.gp (Lp_123_40 M.1) (Tr.bd (X10_drawsAlone M hs) (fun r h1 q => ?_)))
  obtain ⟨q1, q2, q3, q4, q6, q7⟩ := q
  subst q1
  have L1 := q6.1
  unfold tR tN lD
  generalize evI (G.2.2.1 s) = R at q2 q3 q4 ⊢
  have ho := cO_le R
  have hf : HF 128 (dT0 128 R [] []) 3 (dRt 128 R [] []) := HF_rt ho
  have hc := HF_c R
  have hlen : (dT0 128 R [] []).length ≤ 64 := by
    have t2 : (dT2 R [] []).length ≤ 0 + 16 := tss_len _ _ _ 16
    have t1 : (dT1 128 R [] []).length ≤ (dT2 R [] []).length + 4 := tss_len _ _ _ 4
    have t0 : (dT0 128 R [] []).length ≤ (dT1 128 R [] []).length + 1 := tss_len _ _ _ 1
    omega
  have er : tbR (dL R []) (cT R) (cR R) = vis 128 (dT0 128 R [] []) 4 (dRt 128 R [] []) 124 := by
    rw [mv_dT0, mv_dRt]; exact (vis_mv ho (TOK_c R) hc.lt).symm
  have hlf : ∀ x ∈ tbR (dL R []) (cT R) (cR R), x.2 < (dL R []).length := vis_leaf _ _ _ _ _
  have hd := dL_len R
  unfold tbN
  rw [er] at hlf ⊢
  refine Tr.ca (La_151 (j := 0) L1 (by decide)) ?_
  have e0 : (0 : Int32).toNatClampNeg = 0 := by decide
  rw [e0]
  have L2 : Lay (sI h1 151 0 (nI (dRt 128 R [] []))) := L1
  refine Tr.ck (Lo_123 L2) (Tr.gp (Lp_123_41 L2) (Tr.ca (La_152 (j := 0) L2 (by decide)) (Tr.nm (fun h4 e4 => ?_))))
  have F4 : TFr h1 h4 := by rw [e4]; exact ((TFr.c (by decide)).tr (TFr.c (by decide))).tr TFr.f
  have g39 : gI h4 123 39 = nI 0 := by rw [e4, gI_sI, upd_eq]; rfl
  have g151 : gI h4 151 0 = nI (dRt 128 R [] []) := by rw [e4, gI_sI_ne (by decide), gI_sI_ne (by decide), gI_sI, upd_eq]
  have g152 : gI h4 152 0 = 124 := by rw [e4, gI_sI_ne (by decide), gI_sI, upd_eq]
  refine Tr.imp (X10_tb26 (F4.1.lay L1) (F4.rt q3) q4 hlen (F4.rl q2) (by omega) hf hlf g39 g151 g152) (fun _ h5 q => ?_)
  have F5 := F4.tr q.2
  exact ⟨q.1, F5.rl q2, F5.mi q6, q7.tr F5.mA⟩
end REF
